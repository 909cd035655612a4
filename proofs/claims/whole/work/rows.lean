section
-- ===== PART A: goes FIRST, ahead of the names: the tables' words, and 'selects' of the private methods out of them =====
/-- a private method of a class that the tables say can be made, by its rows of tables_1 -/
def lw_okq (q : MethodName × Nat) : Prop := (q.1.cls ≠ "java/lang/invoke/MethodHandle" ∧ q.1.cls ≠ "java/lang/invoke/VarHandle") ∧ Cond.instantiable q.1.cls q.2 ∈ tables_1 ∧ Cond.privateMethod q.1 ∈ tables_1 ∧ Cond.instanceMethod q.1 ∈ tables_1
theorem lw_p0 : lw_okq (⟨"SaveLoops$Parts", "testsUpTo", "(II)I"⟩, 9) := ⟨⟨by decide +kernel, by decide +kernel⟩, List.mem_of_getElem? (i := 21) (by decide +kernel), List.mem_of_getElem? (i := 210) (by decide +kernel), List.mem_of_getElem? (i := 211) (by decide +kernel)⟩
theorem lw_p1 : lw_okq (⟨"SaveLoops", "isInput", "(I)Z"⟩, 6) := ⟨⟨by decide +kernel, by decide +kernel⟩, List.mem_of_getElem? (i := 13) (by decide +kernel), List.mem_of_getElem? (i := 271) (by decide +kernel), List.mem_of_getElem? (i := 272) (by decide +kernel)⟩
theorem lw_p2 : lw_okq (⟨"SaveLoops$Votes", "partsOfInput", "(I)I"⟩, 6) := ⟨⟨by decide +kernel, by decide +kernel⟩, List.mem_of_getElem? (i := 73) (by decide +kernel), List.mem_of_getElem? (i := 283) (by decide +kernel), List.mem_of_getElem? (i := 284) (by decide +kernel)⟩
theorem lw_p3 : lw_okq (⟨"SaveLoops$Votes", "workOutActingSets", "(I)V"⟩, 6) := ⟨⟨by decide +kernel, by decide +kernel⟩, List.mem_of_getElem? (i := 73) (by decide +kernel), List.mem_of_getElem? (i := 292) (by decide +kernel), List.mem_of_getElem? (i := 293) (by decide +kernel)⟩
theorem lw_p4 : lw_okq (⟨"SaveLoops$Votes", "actingInputs", "(II)I"⟩, 6) := ⟨⟨by decide +kernel, by decide +kernel⟩, List.mem_of_getElem? (i := 73) (by decide +kernel), List.mem_of_getElem? (i := 302) (by decide +kernel), List.mem_of_getElem? (i := 303) (by decide +kernel)⟩
theorem lw_p5 : lw_okq (⟨"SaveLoops$Votes", "inputActs", "(II)Z"⟩, 6) := ⟨⟨by decide +kernel, by decide +kernel⟩, List.mem_of_getElem? (i := 73) (by decide +kernel), List.mem_of_getElem? (i := 306) (by decide +kernel), List.mem_of_getElem? (i := 307) (by decide +kernel)⟩
theorem lw_p6 : lw_okq (⟨"SaveLoops$Odds", "takeMembers", "(I)V"⟩, 9) := ⟨⟨by decide +kernel, by decide +kernel⟩, List.mem_of_getElem? (i := 98) (by decide +kernel), List.mem_of_getElem? (i := 373) (by decide +kernel), List.mem_of_getElem? (i := 374) (by decide +kernel)⟩
theorem lw_p7 : lw_okq (⟨"SaveLoops$Odds", "workIn", "(IJ)V"⟩, 9) := ⟨⟨by decide +kernel, by decide +kernel⟩, List.mem_of_getElem? (i := 98) (by decide +kernel), List.mem_of_getElem? (i := 392) (by decide +kernel), List.mem_of_getElem? (i := 393) (by decide +kernel)⟩
theorem lw_p8 : lw_okq (⟨"SaveLoops$Odds", "takeSharesOn", "(I)V"⟩, 9) := ⟨⟨by decide +kernel, by decide +kernel⟩, List.mem_of_getElem? (i := 98) (by decide +kernel), List.mem_of_getElem? (i := 401) (by decide +kernel), List.mem_of_getElem? (i := 402) (by decide +kernel)⟩
theorem lw_p9 : lw_okq (⟨"SaveLoops$Odds", "weightAt", "(I)J"⟩, 9) := ⟨⟨by decide +kernel, by decide +kernel⟩, List.mem_of_getElem? (i := 98) (by decide +kernel), List.mem_of_getElem? (i := 446) (by decide +kernel), List.mem_of_getElem? (i := 447) (by decide +kernel)⟩
theorem lw_p10 : lw_okq (⟨"SaveLoops$Planner", "takeChoices", "(I)V"⟩, 6) := ⟨⟨by decide +kernel, by decide +kernel⟩, List.mem_of_getElem? (i := 132) (by decide +kernel), List.mem_of_getElem? (i := 487) (by decide +kernel), List.mem_of_getElem? (i := 488) (by decide +kernel)⟩
theorem lw_p11 : lw_okq (⟨"SaveLoops$Planner", "costOfChoices", "()I"⟩, 6) := ⟨⟨by decide +kernel, by decide +kernel⟩, List.mem_of_getElem? (i := 132) (by decide +kernel), List.mem_of_getElem? (i := 491) (by decide +kernel), List.mem_of_getElem? (i := 492) (by decide +kernel)⟩
theorem lw_p12 : lw_okq (⟨"SaveLoops$Planner", "keepsLaw", "(J)Z"⟩, 6) := ⟨⟨by decide +kernel, by decide +kernel⟩, List.mem_of_getElem? (i := 132) (by decide +kernel), List.mem_of_getElem? (i := 503) (by decide +kernel), List.mem_of_getElem? (i := 504) (by decide +kernel)⟩
theorem lw_p13 : lw_okq (⟨"SaveLoops$Planner", "toldChoices", "()I"⟩, 6) := ⟨⟨by decide +kernel, by decide +kernel⟩, List.mem_of_getElem? (i := 132) (by decide +kernel), List.mem_of_getElem? (i := 513) (by decide +kernel), List.mem_of_getElem? (i := 514) (by decide +kernel)⟩
theorem lw_p14 : lw_okq (⟨"SaveLoopsModel", "isPart", "(I)Z"⟩, 26) := ⟨⟨by decide +kernel, by decide +kernel⟩, List.mem_of_getElem? (i := 546) (by decide +kernel), List.mem_of_getElem? (i := 644) (by decide +kernel), List.mem_of_getElem? (i := 645) (by decide +kernel)⟩
theorem lw_p15 : lw_okq (⟨"SaveLoopsModel", "isBypassed", "(II)Z"⟩, 26) := ⟨⟨by decide +kernel, by decide +kernel⟩, List.mem_of_getElem? (i := 546) (by decide +kernel), List.mem_of_getElem? (i := 667) (by decide +kernel), List.mem_of_getElem? (i := 668) (by decide +kernel)⟩
def lw_privs_1 : List (MethodName × Nat) := [(⟨"SaveLoops$Parts", "testsUpTo", "(II)I"⟩, 9), (⟨"SaveLoops", "isInput", "(I)Z"⟩, 6), (⟨"SaveLoops$Votes", "partsOfInput", "(I)I"⟩, 6), (⟨"SaveLoops$Votes", "workOutActingSets", "(I)V"⟩, 6), (⟨"SaveLoops$Votes", "actingInputs", "(II)I"⟩, 6), (⟨"SaveLoops$Votes", "inputActs", "(II)Z"⟩, 6), (⟨"SaveLoops$Odds", "takeMembers", "(I)V"⟩, 9), (⟨"SaveLoops$Odds", "workIn", "(IJ)V"⟩, 9), (⟨"SaveLoops$Odds", "takeSharesOn", "(I)V"⟩, 9), (⟨"SaveLoops$Odds", "weightAt", "(I)J"⟩, 9), (⟨"SaveLoops$Planner", "takeChoices", "(I)V"⟩, 6), (⟨"SaveLoops$Planner", "costOfChoices", "()I"⟩, 6), (⟨"SaveLoops$Planner", "keepsLaw", "(J)Z"⟩, 6), (⟨"SaveLoops$Planner", "toldChoices", "()I"⟩, 6), (⟨"SaveLoopsModel", "isPart", "(I)Z"⟩, 26), (⟨"SaveLoopsModel", "isBypassed", "(II)Z"⟩, 26)]
theorem lw_r1 : ∀ q ∈ lw_privs_1, lw_okq q := List.forall_mem_cons.mpr ⟨lw_p0, List.forall_mem_cons.mpr ⟨lw_p1, List.forall_mem_cons.mpr ⟨lw_p2, List.forall_mem_cons.mpr ⟨lw_p3, List.forall_mem_cons.mpr ⟨lw_p4, List.forall_mem_cons.mpr ⟨lw_p5, List.forall_mem_cons.mpr ⟨lw_p6, List.forall_mem_cons.mpr ⟨lw_p7, List.forall_mem_cons.mpr ⟨lw_p8, List.forall_mem_cons.mpr ⟨lw_p9, List.forall_mem_cons.mpr ⟨lw_p10, List.forall_mem_cons.mpr ⟨lw_p11, List.forall_mem_cons.mpr ⟨lw_p12, List.forall_mem_cons.mpr ⟨lw_p13, List.forall_mem_cons.mpr ⟨lw_p14, List.forall_mem_cons.mpr ⟨lw_p15, fun _ h => absurd h List.not_mem_nil⟩⟩⟩⟩⟩⟩⟩⟩⟩⟩⟩⟩⟩⟩⟩⟩
theorem lw_p16 : lw_okq (⟨"SaveLoopsModel", "isInput", "(I)Z"⟩, 26) := ⟨⟨by decide +kernel, by decide +kernel⟩, List.mem_of_getElem? (i := 546) (by decide +kernel), List.mem_of_getElem? (i := 683) (by decide +kernel), List.mem_of_getElem? (i := 684) (by decide +kernel)⟩
theorem lw_p17 : lw_okq (⟨"SaveLoopsModel", "shareOf", "(II)I"⟩, 26) := ⟨⟨by decide +kernel, by decide +kernel⟩, List.mem_of_getElem? (i := 546) (by decide +kernel), List.mem_of_getElem? (i := 692) (by decide +kernel), List.mem_of_getElem? (i := 693) (by decide +kernel)⟩
theorem lw_p18 : lw_okq (⟨"SaveLoopsModel", "isVote", "(I)Z"⟩, 26) := ⟨⟨by decide +kernel, by decide +kernel⟩, List.mem_of_getElem? (i := 546) (by decide +kernel), List.mem_of_getElem? (i := 700) (by decide +kernel), List.mem_of_getElem? (i := 701) (by decide +kernel)⟩
theorem lw_p19 : lw_okq (⟨"SaveLoopsModel", "partsOf", "(I)I"⟩, 26) := ⟨⟨by decide +kernel, by decide +kernel⟩, List.mem_of_getElem? (i := 546) (by decide +kernel), List.mem_of_getElem? (i := 705) (by decide +kernel), List.mem_of_getElem? (i := 706) (by decide +kernel)⟩
theorem lw_p20 : lw_okq (⟨"SaveLoopsModel", "groupsOf", "(I)I"⟩, 26) := ⟨⟨by decide +kernel, by decide +kernel⟩, List.mem_of_getElem? (i := 546) (by decide +kernel), List.mem_of_getElem? (i := 709) (by decide +kernel), List.mem_of_getElem? (i := 710) (by decide +kernel)⟩
theorem lw_p21 : lw_okq (⟨"SaveLoopsModel", "eventsOf", "(I)I"⟩, 26) := ⟨⟨by decide +kernel, by decide +kernel⟩, List.mem_of_getElem? (i := 546) (by decide +kernel), List.mem_of_getElem? (i := 713) (by decide +kernel), List.mem_of_getElem? (i := 714) (by decide +kernel)⟩
theorem lw_p22 : lw_okq (⟨"SaveLoopsModel", "chanceOf", "(II)J"⟩, 26) := ⟨⟨by decide +kernel, by decide +kernel⟩, List.mem_of_getElem? (i := 546) (by decide +kernel), List.mem_of_getElem? (i := 727) (by decide +kernel), List.mem_of_getElem? (i := 728) (by decide +kernel)⟩
theorem lw_p23 : lw_okq (⟨"SaveLoopsModel", "adds", "(II)V"⟩, 26) := ⟨⟨by decide +kernel, by decide +kernel⟩, List.mem_of_getElem? (i := 546) (by decide +kernel), List.mem_of_getElem? (i := 731) (by decide +kernel), List.mem_of_getElem? (i := 732) (by decide +kernel)⟩
theorem lw_p24 : lw_okq (⟨"SaveLoopsModel", "sums", "(IZ)J"⟩, 26) := ⟨⟨by decide +kernel, by decide +kernel⟩, List.mem_of_getElem? (i := 546) (by decide +kernel), List.mem_of_getElem? (i := 735) (by decide +kernel), List.mem_of_getElem? (i := 736) (by decide +kernel)⟩
theorem lw_p25 : lw_okq (⟨"SaveLoopsModel", "does", "(II)Z"⟩, 26) := ⟨⟨by decide +kernel, by decide +kernel⟩, List.mem_of_getElem? (i := 546) (by decide +kernel), List.mem_of_getElem? (i := 739) (by decide +kernel), List.mem_of_getElem? (i := 740) (by decide +kernel)⟩
theorem lw_p26 : lw_okq (⟨"SaveLoopsModel", "isSpan", "(II)Z"⟩, 26) := ⟨⟨by decide +kernel, by decide +kernel⟩, List.mem_of_getElem? (i := 546) (by decide +kernel), List.mem_of_getElem? (i := 747) (by decide +kernel), List.mem_of_getElem? (i := 748) (by decide +kernel)⟩
theorem lw_p27 : lw_okq (⟨"SaveLoopsModel", "mattersOf", "(III)J"⟩, 26) := ⟨⟨by decide +kernel, by decide +kernel⟩, List.mem_of_getElem? (i := 546) (by decide +kernel), List.mem_of_getElem? (i := 764) (by decide +kernel), List.mem_of_getElem? (i := 765) (by decide +kernel)⟩
theorem lw_p28 : lw_okq (⟨"SaveLoopsModel", "laid", "(III)I"⟩, 26) := ⟨⟨by decide +kernel, by decide +kernel⟩, List.mem_of_getElem? (i := 546) (by decide +kernel), List.mem_of_getElem? (i := 783) (by decide +kernel), List.mem_of_getElem? (i := 784) (by decide +kernel)⟩
theorem lw_p29 : lw_okq (⟨"SaveLoopsModel", "lifted", "()V"⟩, 26) := ⟨⟨by decide +kernel, by decide +kernel⟩, List.mem_of_getElem? (i := 546) (by decide +kernel), List.mem_of_getElem? (i := 787) (by decide +kernel), List.mem_of_getElem? (i := 788) (by decide +kernel)⟩
def lw_privs_2 : List (MethodName × Nat) := [(⟨"SaveLoopsModel", "isInput", "(I)Z"⟩, 26), (⟨"SaveLoopsModel", "shareOf", "(II)I"⟩, 26), (⟨"SaveLoopsModel", "isVote", "(I)Z"⟩, 26), (⟨"SaveLoopsModel", "partsOf", "(I)I"⟩, 26), (⟨"SaveLoopsModel", "groupsOf", "(I)I"⟩, 26), (⟨"SaveLoopsModel", "eventsOf", "(I)I"⟩, 26), (⟨"SaveLoopsModel", "chanceOf", "(II)J"⟩, 26), (⟨"SaveLoopsModel", "adds", "(II)V"⟩, 26), (⟨"SaveLoopsModel", "sums", "(IZ)J"⟩, 26), (⟨"SaveLoopsModel", "does", "(II)Z"⟩, 26), (⟨"SaveLoopsModel", "isSpan", "(II)Z"⟩, 26), (⟨"SaveLoopsModel", "mattersOf", "(III)J"⟩, 26), (⟨"SaveLoopsModel", "laid", "(III)I"⟩, 26), (⟨"SaveLoopsModel", "lifted", "()V"⟩, 26)]
theorem lw_r2 : ∀ q ∈ lw_privs_2, lw_okq q := List.forall_mem_cons.mpr ⟨lw_p16, List.forall_mem_cons.mpr ⟨lw_p17, List.forall_mem_cons.mpr ⟨lw_p18, List.forall_mem_cons.mpr ⟨lw_p19, List.forall_mem_cons.mpr ⟨lw_p20, List.forall_mem_cons.mpr ⟨lw_p21, List.forall_mem_cons.mpr ⟨lw_p22, List.forall_mem_cons.mpr ⟨lw_p23, List.forall_mem_cons.mpr ⟨lw_p24, List.forall_mem_cons.mpr ⟨lw_p25, List.forall_mem_cons.mpr ⟨lw_p26, List.forall_mem_cons.mpr ⟨lw_p27, List.forall_mem_cons.mpr ⟨lw_p28, List.forall_mem_cons.mpr ⟨lw_p29, fun _ h => absurd h List.not_mem_nil⟩⟩⟩⟩⟩⟩⟩⟩⟩⟩⟩⟩⟩⟩
def lw_privs : List (MethodName × Nat) := lw_privs_1 ++ (lw_privs_2)
def lw_tbl : List Cond := k2_sels lw_privs ++ tables_1
theorem lw_privs_ok : ∀ q ∈ lw_privs, lw_okq q := by
  show ∀ q ∈ lw_privs_1 ++ (lw_privs_2), lw_okq q
  exact List.forall_mem_append.mpr ⟨lw_r1, lw_r2⟩
end
section
def RX0 : String := "SaveLoops$Groups"
def TX0 : u_T := fun k => match k with
  | 0 => ("SaveLoops$Groups", "shares", "[I", true)
  | 1 => ("SaveLoops$Groups", "struck", "[I", true)
  | _ => ("SaveLoops$Groups", "count", "I", false)
def tyX0 : Nat → FieldType := fun k => match k with
  | 0 => .array .int
  | 1 => .array .int
  | _ => .int
abbrev wsX00 : List Cond := u_ws RX0 TX0 3
theorem nmX0 : ∀ a, a < 3 → ∀ b, b < 3 → a ≠ b → (TX0 a).2.1 ≠ (TX0 b).2.1 := by decide +kernel
theorem tyX0_ok : ∀ k, k < 3 → parseFieldDescriptor (TX0 k).2.2.1 = some (tyX0 k) := by decide +kernel
abbrev cX0_init : ByteArray := prog_2_method_1_code
def yX0_init : MethodName := ⟨RX0, "<init>", "()V"⟩
abbrev cX0_size : ByteArray := prog_2_method_2_code
def yX0_size : MethodName := ⟨RX0, "size", "()I"⟩
abbrev cX0_add : ByteArray := prog_2_method_3_code
def yX0_add : MethodName := ⟨RX0, "add", "(II)I"⟩
abbrev cX0_shareOf : ByteArray := prog_2_method_4_code
def yX0_shareOf : MethodName := ⟨RX0, "shareOf", "(I)I"⟩
abbrev cX0_struckBy : ByteArray := prog_2_method_5_code
def yX0_struckBy : MethodName := ⟨RX0, "struckBy", "(I)I"⟩
abbrev cX0_striking : ByteArray := prog_2_method_6_code
def yX0_striking : MethodName := ⟨RX0, "striking", "(I)I"⟩
def RX1 : String := "SaveLoops$Odds"
def TX1 : u_T := fun k => match k with
  | 0 => ("SaveLoops$Odds", "parts", "LSaveLoops$Parts;", true)
  | 1 => ("SaveLoops$Odds", "groups", "LSaveLoops$Groups;", true)
  | 2 => ("SaveLoops$Odds", "votes", "LSaveLoops$Votes;", true)
  | 3 => ("SaveLoops$Odds", "bySet", "[J", true)
  | 4 => ("SaveLoops$Odds", "folded", "[J", true)
  | 5 => ("SaveLoops$Odds", "members", "[I", true)
  | 6 => ("SaveLoops$Odds", "shares", "[I", true)
  | 7 => ("SaveLoops$Odds", "size", "I", false)
  | _ => ("SaveLoops$Odds", "events", "I", false)
def tyX1 : Nat → FieldType := fun k => match k with
  | 0 => .object "SaveLoops$Parts"
  | 1 => .object "SaveLoops$Groups"
  | 2 => .object "SaveLoops$Votes"
  | 3 => .array .long
  | 4 => .array .long
  | 5 => .array .int
  | 6 => .array .int
  | 7 => .int
  | _ => .int
abbrev wsX10 : List Cond := u_ws RX1 TX1 9
theorem nmX1 : ∀ a, a < 9 → ∀ b, b < 9 → a ≠ b → (TX1 a).2.1 ≠ (TX1 b).2.1 := by decide +kernel
theorem tyX1_ok : ∀ k, k < 9 → parseFieldDescriptor (TX1 k).2.2.1 = some (tyX1 k) := by decide +kernel
abbrev cX1_init : ByteArray := prog_3_method_1_code
def yX1_init : MethodName := ⟨RX1, "<init>", "(LSaveLoops$Parts;LSaveLoops$Groups;LSaveLoops$Votes;)V"⟩
abbrev cX1_groupsOf : ByteArray := prog_3_method_2_code
def yX1_groupsOf : MethodName := ⟨RX1, "groupsOf", "(I)I"⟩
abbrev cX1_eventsOf : ByteArray := prog_3_method_3_code
def yX1_eventsOf : MethodName := ⟨RX1, "eventsOf", "(I)I"⟩
abbrev cX1_hasTooManyEvents : ByteArray := prog_3_method_4_code
def yX1_hasTooManyEvents : MethodName := ⟨RX1, "hasTooManyEvents", "(I)Z"⟩
abbrev cX1_startFailing : ByteArray := prog_3_method_5_code
def yX1_startFailing : MethodName := ⟨RX1, "startFailing", "(I)V"⟩
abbrev cX1_onDay : ByteArray := prog_3_method_6_code
def yX1_onDay : MethodName := ⟨RX1, "onDay", "(I)J"⟩
abbrev cX1_forNothing : ByteArray := prog_3_method_7_code
def yX1_forNothing : MethodName := ⟨RX1, "forNothing", "(I)J"⟩
abbrev cX1_weightOf : ByteArray := prog_3_method_8_code
def yX1_weightOf : MethodName := ⟨RX1, "weightOf", "(II)J"⟩
abbrev cX1_weightiestPart : ByteArray := prog_3_method_9_code
def yX1_weightiestPart : MethodName := ⟨RX1, "weightiestPart", "(I)I"⟩
abbrev cX1_memberCount : ByteArray := prog_3_method_10_code
def yX1_memberCount : MethodName := ⟨RX1, "memberCount", "()I"⟩
abbrev cX1_memberAt : ByteArray := prog_3_method_11_code
def yX1_memberAt : MethodName := ⟨RX1, "memberAt", "(I)I"⟩
abbrev cX1_setShare : ByteArray := prog_3_method_12_code
def yX1_setShare : MethodName := ⟨RX1, "setShare", "(II)V"⟩
abbrev cX1_sum : ByteArray := prog_3_method_13_code
def yX1_sum : MethodName := ⟨RX1, "sum", "()J"⟩
abbrev cX1_takeMembers : ByteArray := prog_3_method_14_code
def yX1_takeMembers : MethodName := ⟨RX1, "takeMembers", "(I)V"⟩
abbrev cX1_workIn : ByteArray := prog_3_method_15_code
def yX1_workIn : MethodName := ⟨RX1, "workIn", "(IJ)V"⟩
abbrev cX1_takeSharesOn : ByteArray := prog_3_method_16_code
def yX1_takeSharesOn : MethodName := ⟨RX1, "takeSharesOn", "(I)V"⟩
abbrev cX1_weightAt : ByteArray := prog_3_method_17_code
def yX1_weightAt : MethodName := ⟨RX1, "weightAt", "(I)J"⟩
def RX2 : String := "SaveLoops$Parts"
def TX2 : u_T := fun k => match k with
  | 0 => ("SaveLoops$Parts", "atOnce", "[I", true)
  | 1 => ("SaveLoops$Parts", "perDay", "[I", true)
  | 2 => ("SaveLoops$Parts", "forNothing", "[I", true)
  | 3 => ("SaveLoops$Parts", "costs", "[I", true)
  | 4 => ("SaveLoops$Parts", "testCounts", "[I", true)
  | 5 => ("SaveLoops$Parts", "testDays", "[I", true)
  | 6 => ("SaveLoops$Parts", "bypassBits", "[J", true)
  | 7 => ("SaveLoops$Parts", "bypasses", "I", false)
  | _ => ("SaveLoops$Parts", "count", "I", false)
def tyX2 : Nat → FieldType := fun k => match k with
  | 0 => .array .int
  | 1 => .array .int
  | 2 => .array .int
  | 3 => .array .int
  | 4 => .array .int
  | 5 => .array .int
  | 6 => .array .long
  | 7 => .int
  | _ => .int
abbrev wsX20 : List Cond := u_ws RX2 TX2 9
theorem nmX2 : ∀ a, a < 9 → ∀ b, b < 9 → a ≠ b → (TX2 a).2.1 ≠ (TX2 b).2.1 := by decide +kernel
theorem tyX2_ok : ∀ k, k < 9 → parseFieldDescriptor (TX2 k).2.2.1 = some (tyX2 k) := by decide +kernel
abbrev cX2_init : ByteArray := prog_4_method_1_code
def yX2_init : MethodName := ⟨RX2, "<init>", "()V"⟩
abbrev cX2_has : ByteArray := prog_4_method_2_code
def yX2_has : MethodName := ⟨RX2, "has", "(I)Z"⟩
abbrev cX2_hasAll : ByteArray := prog_4_method_3_code
def yX2_hasAll : MethodName := ⟨RX2, "hasAll", "(I)Z"⟩
abbrev cX2_size : ByteArray := prog_4_method_4_code
def yX2_size : MethodName := ⟨RX2, "size", "()I"⟩
abbrev cX2_add : ByteArray := prog_4_method_5_code
def yX2_add : MethodName := ⟨RX2, "add", "(III)I"⟩
abbrev cX2_addTest : ByteArray := prog_4_method_6_code
def yX2_addTest : MethodName := ⟨RX2, "addTest", "(II)I"⟩
abbrev cX2_dropTests : ByteArray := prog_4_method_7_code
def yX2_dropTests : MethodName := ⟨RX2, "dropTests", "(II)I"⟩
abbrev cX2_allTests : ByteArray := prog_4_method_8_code
def yX2_allTests : MethodName := ⟨RX2, "allTests", "()I"⟩
abbrev cX2_allBypasses : ByteArray := prog_4_method_9_code
def yX2_allBypasses : MethodName := ⟨RX2, "allBypasses", "()I"⟩
abbrev cX2_addBypass : ByteArray := prog_4_method_10_code
def yX2_addBypass : MethodName := ⟨RX2, "addBypass", "(III)I"⟩
abbrev cX2_bypassedDays : ByteArray := prog_4_method_11_code
def yX2_bypassedDays : MethodName := ⟨RX2, "bypassedDays", "(III)I"⟩
abbrev cX2_changeCost : ByteArray := prog_4_method_12_code
def yX2_changeCost : MethodName := ⟨RX2, "changeCost", "(II)I"⟩
abbrev cX2_costOf : ByteArray := prog_4_method_13_code
def yX2_costOf : MethodName := ⟨RX2, "costOf", "(I)I"⟩
abbrev cX2_shareForNothing : ByteArray := prog_4_method_14_code
def yX2_shareForNothing : MethodName := ⟨RX2, "shareForNothing", "(I)I"⟩
abbrev cX2_shareOn : ByteArray := prog_4_method_15_code
def yX2_shareOn : MethodName := ⟨RX2, "shareOn", "(II)I"⟩
abbrev cX2_shareAfter : ByteArray := prog_4_method_16_code
def yX2_shareAfter : MethodName := ⟨RX2, "shareAfter", "(III)I"⟩
abbrev cX2_testsUpTo : ByteArray := prog_4_method_17_code
def yX2_testsUpTo : MethodName := ⟨RX2, "testsUpTo", "(II)I"⟩
abbrev cX2_daysInWord : ByteArray := prog_4_method_18_code
def yX2_daysInWord : MethodName := ⟨RX2, "daysInWord", "(III)J"⟩
def RX3 : String := "SaveLoops$Planner"
def TX3 : u_T := fun k => match k with
  | 0 => ("SaveLoops$Planner", "parts", "LSaveLoops$Parts;", true)
  | 1 => ("SaveLoops$Planner", "odds", "LSaveLoops$Odds;", true)
  | 2 => ("SaveLoops$Planner", "intervals", "[I", true)
  | 3 => ("SaveLoops$Planner", "choices", "[I", true)
  | 4 => ("SaveLoops$Planner", "bestCost", "I", false)
  | _ => ("SaveLoops$Planner", "bestChoices", "I", false)
def tyX3 : Nat → FieldType := fun k => match k with
  | 0 => .object "SaveLoops$Parts"
  | 1 => .object "SaveLoops$Odds"
  | 2 => .array .int
  | 3 => .array .int
  | 4 => .int
  | _ => .int
abbrev wsX30 : List Cond := u_ws RX3 TX3 6
theorem nmX3 : ∀ a, a < 6 → ∀ b, b < 6 → a ≠ b → (TX3 a).2.1 ≠ (TX3 b).2.1 := by decide +kernel
theorem tyX3_ok : ∀ k, k < 6 → parseFieldDescriptor (TX3 k).2.2.1 = some (tyX3 k) := by decide +kernel
abbrev cX3_init : ByteArray := prog_5_method_1_code
def yX3_init : MethodName := ⟨RX3, "<init>", "(LSaveLoops$Parts;LSaveLoops$Odds;)V"⟩
abbrev cX3_setIntervals : ByteArray := prog_5_method_2_code
def yX3_setIntervals : MethodName := ⟨RX3, "setIntervals", "(III)V"⟩
abbrev cX3_cheapestCost : ByteArray := prog_5_method_3_code
def yX3_cheapestCost : MethodName := ⟨RX3, "cheapestCost", "()I"⟩
abbrev cX3_cheapestChoices : ByteArray := prog_5_method_4_code
def yX3_cheapestChoices : MethodName := ⟨RX3, "cheapestChoices", "()I"⟩
abbrev cX3_findCheapest : ByteArray := prog_5_method_5_code
def yX3_findCheapest : MethodName := ⟨RX3, "findCheapest", "(IJ)Z"⟩
abbrev cX3_takeChoices : ByteArray := prog_5_method_6_code
def yX3_takeChoices : MethodName := ⟨RX3, "takeChoices", "(I)V"⟩
abbrev cX3_toldChoices : ByteArray := prog_5_method_7_code
def yX3_toldChoices : MethodName := ⟨RX3, "toldChoices", "()I"⟩
abbrev cX3_costOfChoices : ByteArray := prog_5_method_8_code
def yX3_costOfChoices : MethodName := ⟨RX3, "costOfChoices", "()I"⟩
abbrev cX3_keepsLaw : ByteArray := prog_5_method_9_code
def yX3_keepsLaw : MethodName := ⟨RX3, "keepsLaw", "(J)Z"⟩
def RX4 : String := "SaveLoops$Votes"
def TX4 : u_T := fun k => match k with
  | 0 => ("SaveLoops$Votes", "needed", "[I", true)
  | 1 => ("SaveLoops$Votes", "inputCounts", "[I", true)
  | 2 => ("SaveLoops$Votes", "inputs", "[I", true)
  | 3 => ("SaveLoops$Votes", "belows", "[I", true)
  | 4 => ("SaveLoops$Votes", "actingSets", "[J", true)
  | _ => ("SaveLoops$Votes", "count", "I", false)
def tyX4 : Nat → FieldType := fun k => match k with
  | 0 => .array .int
  | 1 => .array .int
  | 2 => .array .int
  | 3 => .array .int
  | 4 => .array .long
  | _ => .int
abbrev wsX40 : List Cond := u_ws RX4 TX4 6
theorem nmX4 : ∀ a, a < 6 → ∀ b, b < 6 → a ≠ b → (TX4 a).2.1 ≠ (TX4 b).2.1 := by decide +kernel
theorem tyX4_ok : ∀ k, k < 6 → parseFieldDescriptor (TX4 k).2.2.1 = some (tyX4 k) := by decide +kernel
abbrev cX4_init : ByteArray := prog_6_method_1_code
def yX4_init : MethodName := ⟨RX4, "<init>", "()V"⟩
abbrev cX4_has : ByteArray := prog_6_method_2_code
def yX4_has : MethodName := ⟨RX4, "has", "(I)Z"⟩
abbrev cX4_size : ByteArray := prog_6_method_3_code
def yX4_size : MethodName := ⟨RX4, "size", "()I"⟩
abbrev cX4_partsBelow : ByteArray := prog_6_method_4_code
def yX4_partsBelow : MethodName := ⟨RX4, "partsBelow", "(I)I"⟩
abbrev cX4_sizeBelow : ByteArray := prog_6_method_5_code
def yX4_sizeBelow : MethodName := ⟨RX4, "sizeBelow", "(I)I"⟩
abbrev cX4_add : ByteArray := prog_6_method_6_code
def yX4_add : MethodName := ⟨RX4, "add", "(II[I)I"⟩
abbrev cX4_actsIn : ByteArray := prog_6_method_7_code
def yX4_actsIn : MethodName := ⟨RX4, "actsIn", "(II)Z"⟩
abbrev cX4_partsOfInput : ByteArray := prog_6_method_8_code
def yX4_partsOfInput : MethodName := ⟨RX4, "partsOfInput", "(I)I"⟩
abbrev cX4_workOutActingSets : ByteArray := prog_6_method_9_code
def yX4_workOutActingSets : MethodName := ⟨RX4, "workOutActingSets", "(I)V"⟩
abbrev cX4_actingInputs : ByteArray := prog_6_method_10_code
def yX4_actingInputs : MethodName := ⟨RX4, "actingInputs", "(II)I"⟩
abbrev cX4_inputActs : ByteArray := prog_6_method_11_code
def yX4_inputActs : MethodName := ⟨RX4, "inputActs", "(II)Z"⟩
def RX5 : String := "SaveLoops"
def TX5 : u_T := fun k => match k with
  | 0 => ("SaveLoops", "parts", "LSaveLoops$Parts;", true)
  | 1 => ("SaveLoops", "groups", "LSaveLoops$Groups;", true)
  | 2 => ("SaveLoops", "votes", "LSaveLoops$Votes;", true)
  | 3 => ("SaveLoops", "odds", "LSaveLoops$Odds;", true)
  | 4 => ("SaveLoops", "planner", "LSaveLoops$Planner;", true)
  | _ => ("SaveLoops", "asked", "[I", true)
def tyX5 : Nat → FieldType := fun k => match k with
  | 0 => .object "SaveLoops$Parts"
  | 1 => .object "SaveLoops$Groups"
  | 2 => .object "SaveLoops$Votes"
  | 3 => .object "SaveLoops$Odds"
  | 4 => .object "SaveLoops$Planner"
  | _ => .array .int
abbrev wsX50 : List Cond := u_ws RX5 TX5 6
theorem nmX5 : ∀ a, a < 6 → ∀ b, b < 6 → a ≠ b → (TX5 a).2.1 ≠ (TX5 b).2.1 := by decide +kernel
theorem tyX5_ok : ∀ k, k < 6 → parseFieldDescriptor (TX5 k).2.2.1 = some (tyX5 k) := by decide +kernel
abbrev cX5_init : ByteArray := prog_1_method_1_code
def yX5_init : MethodName := ⟨RX5, "<init>", "()V"⟩
abbrev cX5_part : ByteArray := prog_1_method_2_code
def yX5_part : MethodName := ⟨RX5, "part", "(III)I"⟩
abbrev cX5_test : ByteArray := prog_1_method_3_code
def yX5_test : MethodName := ⟨RX5, "test", "(II)I"⟩
abbrev cX5_noTests : ByteArray := prog_1_method_4_code
def yX5_noTests : MethodName := ⟨RX5, "noTests", "(II)I"⟩
abbrev cX5_bypass : ByteArray := prog_1_method_5_code
def yX5_bypass : MethodName := ⟨RX5, "bypass", "(III)I"⟩
abbrev cX5_bypassed : ByteArray := prog_1_method_6_code
def yX5_bypassed : MethodName := ⟨RX5, "bypassed", "(III)I"⟩
abbrev cX5_group : ByteArray := prog_1_method_7_code
def yX5_group : MethodName := ⟨RX5, "group", "(II)I"⟩
abbrev cX5_vote : ByteArray := prog_1_method_8_code
def yX5_vote : MethodName := ⟨RX5, "vote", "(IIIIII)I"⟩
abbrev cX5_share : ByteArray := prog_1_method_9_code
def yX5_share : MethodName := ⟨RX5, "share", "(II)I"⟩
abbrev cX5_below : ByteArray := prog_1_method_10_code
def yX5_below : MethodName := ⟨RX5, "below", "(II)I"⟩
abbrev cX5_shared : ByteArray := prog_1_method_11_code
def yX5_shared : MethodName := ⟨RX5, "shared", "(II)I"⟩
abbrev cX5_chance : ByteArray := prog_1_method_12_code
def yX5_chance : MethodName := ⟨RX5, "chance", "(II)J"⟩
abbrev cX5_over : ByteArray := prog_1_method_13_code
def yX5_over : MethodName := ⟨RX5, "over", "(III)J"⟩
abbrev cX5_broken : ByteArray := prog_1_method_14_code
def yX5_broken : MethodName := ⟨RX5, "broken", "(IIIJ)I"⟩
abbrev cX5_nothing : ByteArray := prog_1_method_15_code
def yX5_nothing : MethodName := ⟨RX5, "nothing", "(I)J"⟩
abbrev cX5_matters : ByteArray := prog_1_method_16_code
def yX5_matters : MethodName := ⟨RX5, "matters", "(III)J"⟩
abbrev cX5_most : ByteArray := prog_1_method_17_code
def yX5_most : MethodName := ⟨RX5, "most", "(II)I"⟩
abbrev cX5_cost : ByteArray := prog_1_method_18_code
def yX5_cost : MethodName := ⟨RX5, "cost", "(II)I"⟩
abbrev cX5_plan : ByteArray := prog_1_method_19_code
def yX5_plan : MethodName := ⟨RX5, "plan", "(IIIIJI)I"⟩
abbrev cX5_count : ByteArray := prog_1_method_20_code
def yX5_count : MethodName := ⟨RX5, "count", "(I)I"⟩
abbrev cX5_isInput : ByteArray := prog_1_method_21_code
def yX5_isInput : MethodName := ⟨RX5, "isInput", "(I)Z"⟩
abbrev cX5_isShare : ByteArray := prog_1_method_22_code
def yX5_isShare : MethodName := ⟨RX5, "isShare", "(I)Z"⟩
abbrev cX5_isDay : ByteArray := prog_1_method_23_code
def yX5_isDay : MethodName := ⟨RX5, "isDay", "(I)Z"⟩
abbrev cX5_areDays : ByteArray := prog_1_method_24_code
def yX5_areDays : MethodName := ⟨RX5, "areDays", "(II)Z"⟩
abbrev cX5_areSummedDays : ByteArray := prog_1_method_25_code
def yX5_areSummedDays : MethodName := ⟨RX5, "areSummedDays", "(II)Z"⟩
abbrev cX5_isInterval : ByteArray := prog_1_method_26_code
def yX5_isInterval : MethodName := ⟨RX5, "isInterval", "(I)Z"⟩
abbrev cX5_hasBit : ByteArray := prog_1_method_27_code
def yX5_hasBit : MethodName := ⟨RX5, "hasBit", "(II)Z"⟩
abbrev cX5_packed : ByteArray := prog_1_method_28_code
def yX5_packed : MethodName := ⟨RX5, "packed", "(II)I"⟩
abbrev cX5_spread : ByteArray := prog_1_method_29_code
def yX5_spread : MethodName := ⟨RX5, "spread", "(II)I"⟩
def RX6 : String := "SaveLoopsModel"
def TX6 : u_T := fun k => match k with
  | 0 => ("SaveLoopsModel", "parts", "I", false)
  | 1 => ("SaveLoopsModel", "once", "[I", true)
  | 2 => ("SaveLoopsModel", "daily", "[I", true)
  | 3 => ("SaveLoopsModel", "idle", "[I", true)
  | 4 => ("SaveLoopsModel", "cost", "[I", true)
  | 5 => ("SaveLoopsModel", "tests", "[I", true)
  | 6 => ("SaveLoopsModel", "testDay", "[I", true)
  | 7 => ("SaveLoopsModel", "every", "[I", true)
  | 8 => ("SaveLoopsModel", "forced", "[I", true)
  | 9 => ("SaveLoopsModel", "bypasses", "I", false)
  | 10 => ("SaveLoopsModel", "bypassPart", "[I", true)
  | 11 => ("SaveLoopsModel", "bypassX", "[I", true)
  | 12 => ("SaveLoopsModel", "bypassY", "[I", true)
  | 13 => ("SaveLoopsModel", "groups", "I", false)
  | 14 => ("SaveLoopsModel", "groupShare", "[I", true)
  | 15 => ("SaveLoopsModel", "groupParts", "[I", true)
  | 16 => ("SaveLoopsModel", "votes", "I", false)
  | 17 => ("SaveLoopsModel", "least", "[I", true)
  | 18 => ("SaveLoopsModel", "many", "[I", true)
  | 19 => ("SaveLoopsModel", "input", "[I", true)
  | 20 => ("SaveLoopsModel", "below", "[I", true)
  | 21 => ("SaveLoopsModel", "acts", "[Z", true)
  | 22 => ("SaveLoopsModel", "events", "I", false)
  | 23 => ("SaveLoopsModel", "eventShare", "[I", true)
  | 24 => ("SaveLoopsModel", "strikes", "[I", true)
  | _ => ("SaveLoopsModel", "intervals", "[I", true)
def tyX6 : Nat → FieldType := fun k => match k with
  | 0 => .int
  | 1 => .array .int
  | 2 => .array .int
  | 3 => .array .int
  | 4 => .array .int
  | 5 => .array .int
  | 6 => .array .int
  | 7 => .array .int
  | 8 => .array .int
  | 9 => .int
  | 10 => .array .int
  | 11 => .array .int
  | 12 => .array .int
  | 13 => .int
  | 14 => .array .int
  | 15 => .array .int
  | 16 => .int
  | 17 => .array .int
  | 18 => .array .int
  | 19 => .array .int
  | 20 => .array .int
  | 21 => .array .boolean
  | 22 => .int
  | 23 => .array .int
  | 24 => .array .int
  | _ => .array .int
abbrev wsX60 : List Cond := u_ws RX6 TX6 26
theorem nmX6 : ∀ a, a < 26 → ∀ b, b < 26 → a ≠ b → (TX6 a).2.1 ≠ (TX6 b).2.1 := by decide +kernel
theorem tyX6_ok : ∀ k, k < 26 → parseFieldDescriptor (TX6 k).2.2.1 = some (tyX6 k) := by decide +kernel
abbrev cX6_init : ByteArray := prog_8_method_1_code
def yX6_init : MethodName := ⟨RX6, "<init>", "()V"⟩
abbrev cX6_in : ByteArray := prog_8_method_2_code
def yX6_in : MethodName := ⟨RX6, "in", "(JJJ)Z"⟩
abbrev cX6_isPart : ByteArray := prog_8_method_3_code
def yX6_isPart : MethodName := ⟨RX6, "isPart", "(I)Z"⟩
abbrev cX6_isVote : ByteArray := prog_8_method_4_code
def yX6_isVote : MethodName := ⟨RX6, "isVote", "(I)Z"⟩
abbrev cX6_isDay : ByteArray := prog_8_method_5_code
def yX6_isDay : MethodName := ⟨RX6, "isDay", "(I)Z"⟩
abbrev cX6_part : ByteArray := prog_8_method_6_code
def yX6_part : MethodName := ⟨RX6, "part", "(III)I"⟩
abbrev cX6_test : ByteArray := prog_8_method_7_code
def yX6_test : MethodName := ⟨RX6, "test", "(II)I"⟩
abbrev cX6_noTests : ByteArray := prog_8_method_8_code
def yX6_noTests : MethodName := ⟨RX6, "noTests", "(II)I"⟩
abbrev cX6_areDays : ByteArray := prog_8_method_9_code
def yX6_areDays : MethodName := ⟨RX6, "areDays", "(II)Z"⟩
abbrev cX6_bypass : ByteArray := prog_8_method_10_code
def yX6_bypass : MethodName := ⟨RX6, "bypass", "(III)I"⟩
abbrev cX6_isBypassed : ByteArray := prog_8_method_11_code
def yX6_isBypassed : MethodName := ⟨RX6, "isBypassed", "(II)Z"⟩
abbrev cX6_bypassed : ByteArray := prog_8_method_12_code
def yX6_bypassed : MethodName := ⟨RX6, "bypassed", "(III)I"⟩
abbrev cX6_bits : ByteArray := prog_8_method_13_code
def yX6_bits : MethodName := ⟨RX6, "bits", "(I)I"⟩
abbrev cX6_group : ByteArray := prog_8_method_14_code
def yX6_group : MethodName := ⟨RX6, "group", "(II)I"⟩
abbrev cX6_isInput : ByteArray := prog_8_method_15_code
def yX6_isInput : MethodName := ⟨RX6, "isInput", "(I)Z"⟩
abbrev cX6_vote : ByteArray := prog_8_method_16_code
def yX6_vote : MethodName := ⟨RX6, "vote", "(IIIIII)I"⟩
abbrev cX6_shareOf : ByteArray := prog_8_method_17_code
def yX6_shareOf : MethodName := ⟨RX6, "shareOf", "(II)I"⟩
abbrev cX6_share : ByteArray := prog_8_method_18_code
def yX6_share : MethodName := ⟨RX6, "share", "(II)I"⟩
abbrev cX6_partsOf : ByteArray := prog_8_method_19_code
def yX6_partsOf : MethodName := ⟨RX6, "partsOf", "(I)I"⟩
abbrev cX6_groupsOf : ByteArray := prog_8_method_20_code
def yX6_groupsOf : MethodName := ⟨RX6, "groupsOf", "(I)I"⟩
abbrev cX6_eventsOf : ByteArray := prog_8_method_21_code
def yX6_eventsOf : MethodName := ⟨RX6, "eventsOf", "(I)I"⟩
abbrev cX6_below : ByteArray := prog_8_method_22_code
def yX6_below : MethodName := ⟨RX6, "below", "(II)I"⟩
abbrev cX6_shared : ByteArray := prog_8_method_23_code
def yX6_shared : MethodName := ⟨RX6, "shared", "(II)I"⟩
abbrev cX6_does : ByteArray := prog_8_method_24_code
def yX6_does : MethodName := ⟨RX6, "does", "(II)Z"⟩
abbrev cX6_adds : ByteArray := prog_8_method_25_code
def yX6_adds : MethodName := ⟨RX6, "adds", "(II)V"⟩
abbrev cX6_sums : ByteArray := prog_8_method_26_code
def yX6_sums : MethodName := ⟨RX6, "sums", "(IZ)J"⟩
abbrev cX6_chanceOf : ByteArray := prog_8_method_27_code
def yX6_chanceOf : MethodName := ⟨RX6, "chanceOf", "(II)J"⟩
abbrev cX6_chance : ByteArray := prog_8_method_28_code
def yX6_chance : MethodName := ⟨RX6, "chance", "(II)J"⟩
abbrev cX6_isSpan : ByteArray := prog_8_method_29_code
def yX6_isSpan : MethodName := ⟨RX6, "isSpan", "(II)Z"⟩
abbrev cX6_over : ByteArray := prog_8_method_30_code
def yX6_over : MethodName := ⟨RX6, "over", "(III)J"⟩
abbrev cX6_broken : ByteArray := prog_8_method_31_code
def yX6_broken : MethodName := ⟨RX6, "broken", "(IIIJ)I"⟩
abbrev cX6_nothing : ByteArray := prog_8_method_32_code
def yX6_nothing : MethodName := ⟨RX6, "nothing", "(I)J"⟩
abbrev cX6_mattersOf : ByteArray := prog_8_method_33_code
def yX6_mattersOf : MethodName := ⟨RX6, "mattersOf", "(III)J"⟩
abbrev cX6_matters : ByteArray := prog_8_method_34_code
def yX6_matters : MethodName := ⟨RX6, "matters", "(III)J"⟩
abbrev cX6_most : ByteArray := prog_8_method_35_code
def yX6_most : MethodName := ⟨RX6, "most", "(II)I"⟩
abbrev cX6_cost : ByteArray := prog_8_method_36_code
def yX6_cost : MethodName := ⟨RX6, "cost", "(II)I"⟩
abbrev cX6_laid : ByteArray := prog_8_method_37_code
def yX6_laid : MethodName := ⟨RX6, "laid", "(III)I"⟩
abbrev cX6_lifted : ByteArray := prog_8_method_38_code
def yX6_lifted : MethodName := ⟨RX6, "lifted", "()V"⟩
abbrev cX6_plan : ByteArray := prog_8_method_39_code
def yX6_plan : MethodName := ⟨RX6, "plan", "(IIIIJI)I"⟩
abbrev cX6_count : ByteArray := prog_8_method_40_code
def yX6_count : MethodName := ⟨RX6, "count", "(I)I"⟩
def RJ6 : String := "java/lang/Integer"
def TJ6 : u_T := fun k => match k with
  | _ => ("", "", "", false)
def tyJ6 : Nat → FieldType := fun k => match k with
  | _ => .int
abbrev wsJ60 : List Cond := u_ws RJ6 TJ6 0
theorem nmJ6 : ∀ a, a < 0 → ∀ b, b < 0 → a ≠ b → (TJ6 a).2.1 ≠ (TJ6 b).2.1 := by decide +kernel
theorem tyJ6_ok : ∀ k, k < 0 → parseFieldDescriptor (TJ6 k).2.2.1 = some (tyJ6 k) := by decide +kernel
abbrev cJ6_bitCount_0f7a4 : ByteArray := prog_9_method_49_code
def yJ6_bitCount_0f7a4 : MethodName := ⟨RJ6, "bitCount", "(I)I"⟩
def RJ13 : String := "java/lang/Long"
def TJ13 : u_T := fun k => match k with
  | _ => ("", "", "", false)
def tyJ13 : Nat → FieldType := fun k => match k with
  | _ => .int
abbrev wsJ130 : List Cond := u_ws RJ13 TJ13 0
theorem nmJ13 : ∀ a, a < 0 → ∀ b, b < 0 → a ≠ b → (TJ13 a).2.1 ≠ (TJ13 b).2.1 := by decide +kernel
theorem tyJ13_ok : ∀ k, k < 0 → parseFieldDescriptor (TJ13 k).2.2.1 = some (tyJ13 k) := by decide +kernel
abbrev cJ13_bitCount_95d88 : ByteArray := prog_10_method_50_code
def yJ13_bitCount_95d88 : MethodName := ⟨RJ13, "bitCount", "(J)I"⟩
def RJ9 : String := "java/lang/Math"
def TJ9 : u_T := fun k => match k with
  | _ => ("", "", "", false)
def tyJ9 : Nat → FieldType := fun k => match k with
  | _ => .int
abbrev wsJ90 : List Cond := u_ws RJ9 TJ9 0
theorem nmJ9 : ∀ a, a < 0 → ∀ b, b < 0 → a ≠ b → (TJ9 a).2.1 ≠ (TJ9 b).2.1 := by decide +kernel
theorem tyJ9_ok : ∀ k, k < 0 → parseFieldDescriptor (TJ9 k).2.2.1 = some (tyJ9 k) := by decide +kernel
abbrev cJ9_max_7cf53 : ByteArray := prog_11_method_65_code
def yJ9_max_7cf53 : MethodName := ⟨RJ9, "max", "(II)I"⟩
abbrev cJ9_min_7cf53 : ByteArray := prog_11_method_69_code
def yJ9_min_7cf53 : MethodName := ⟨RJ9, "min", "(II)I"⟩
def RJ10 : String := "java/lang/System"
def TJ10 : u_T := fun k => match k with
  | _ => ("", "", "", false)
def tyJ10 : Nat → FieldType := fun k => match k with
  | _ => .int
abbrev wsJ100 : List Cond := u_ws RJ10 TJ10 0
theorem nmJ10 : ∀ a, a < 0 → ∀ b, b < 0 → a ≠ b → (TJ10 a).2.1 ≠ (TJ10 b).2.1 := by decide +kernel
theorem tyJ10_ok : ∀ k, k < 0 → parseFieldDescriptor (TJ10 k).2.2.1 = some (tyJ10 k) := by decide +kernel
def RL : String := "SaveLoopsLaw"
abbrev cL_law : ByteArray := code
def yL_law : MethodName := ⟨RL, "law", "([I)Z"⟩
abbrev vwCl : List vw_C := [(RX0, TX0, 3), (RX1, TX1, 9), (RX2, TX2, 9), (RX3, TX3, 6), (RX4, TX4, 6), (RX5, TX5, 6), (RX6, TX6, 26)]
end
section
theorem dJ6_bitCount_0f7a4_0 : decode cJ6_bitCount_0f7a4 0 = .ok (.iload_n 0, 1) := by decide +kernel
theorem dJ6_bitCount_0f7a4_1 : decode cJ6_bitCount_0f7a4 1 = .ok (.iload_n 0, 1) := by decide +kernel
theorem dJ6_bitCount_0f7a4_2 : decode cJ6_bitCount_0f7a4 2 = .ok (.iconst 1, 1) := by decide +kernel
theorem dJ6_bitCount_0f7a4_3 : decode cJ6_bitCount_0f7a4 3 = .ok (.iushr, 1) := by decide +kernel
theorem dJ6_bitCount_0f7a4_4 : decode cJ6_bitCount_0f7a4 4 = .ok (.ldc_w 265, 3) := by decide +kernel
theorem dJ6_bitCount_0f7a4_7 : decode cJ6_bitCount_0f7a4 7 = .ok (.iand, 1) := by decide +kernel
theorem dJ6_bitCount_0f7a4_8 : decode cJ6_bitCount_0f7a4 8 = .ok (.isub, 1) := by decide +kernel
theorem dJ6_bitCount_0f7a4_9 : decode cJ6_bitCount_0f7a4 9 = .ok (.istore_n 0, 1) := by decide +kernel
theorem dJ6_bitCount_0f7a4_10 : decode cJ6_bitCount_0f7a4 10 = .ok (.iload_n 0, 1) := by decide +kernel
theorem dJ6_bitCount_0f7a4_11 : decode cJ6_bitCount_0f7a4 11 = .ok (.ldc_w 266, 3) := by decide +kernel
theorem dJ6_bitCount_0f7a4_14 : decode cJ6_bitCount_0f7a4 14 = .ok (.iand, 1) := by decide +kernel
theorem dJ6_bitCount_0f7a4_15 : decode cJ6_bitCount_0f7a4 15 = .ok (.iload_n 0, 1) := by decide +kernel
theorem dJ6_bitCount_0f7a4_16 : decode cJ6_bitCount_0f7a4 16 = .ok (.iconst 2, 1) := by decide +kernel
theorem dJ6_bitCount_0f7a4_17 : decode cJ6_bitCount_0f7a4 17 = .ok (.iushr, 1) := by decide +kernel
theorem dJ6_bitCount_0f7a4_18 : decode cJ6_bitCount_0f7a4 18 = .ok (.ldc_w 266, 3) := by decide +kernel
theorem dJ6_bitCount_0f7a4_21 : decode cJ6_bitCount_0f7a4 21 = .ok (.iand, 1) := by decide +kernel
theorem dJ6_bitCount_0f7a4_22 : decode cJ6_bitCount_0f7a4 22 = .ok (.iadd, 1) := by decide +kernel
theorem dJ6_bitCount_0f7a4_23 : decode cJ6_bitCount_0f7a4 23 = .ok (.istore_n 0, 1) := by decide +kernel
theorem dJ6_bitCount_0f7a4_24 : decode cJ6_bitCount_0f7a4 24 = .ok (.iload_n 0, 1) := by decide +kernel
theorem dJ6_bitCount_0f7a4_25 : decode cJ6_bitCount_0f7a4 25 = .ok (.iload_n 0, 1) := by decide +kernel
theorem dJ6_bitCount_0f7a4_26 : decode cJ6_bitCount_0f7a4 26 = .ok (.iconst 4, 1) := by decide +kernel
theorem dJ6_bitCount_0f7a4_27 : decode cJ6_bitCount_0f7a4 27 = .ok (.iushr, 1) := by decide +kernel
theorem dJ6_bitCount_0f7a4_28 : decode cJ6_bitCount_0f7a4 28 = .ok (.iadd, 1) := by decide +kernel
theorem dJ6_bitCount_0f7a4_29 : decode cJ6_bitCount_0f7a4 29 = .ok (.ldc_w 267, 3) := by decide +kernel
theorem dJ6_bitCount_0f7a4_32 : decode cJ6_bitCount_0f7a4 32 = .ok (.iand, 1) := by decide +kernel
theorem dJ6_bitCount_0f7a4_33 : decode cJ6_bitCount_0f7a4 33 = .ok (.istore_n 0, 1) := by decide +kernel
theorem dJ6_bitCount_0f7a4_34 : decode cJ6_bitCount_0f7a4 34 = .ok (.iload_n 0, 1) := by decide +kernel
theorem dJ6_bitCount_0f7a4_35 : decode cJ6_bitCount_0f7a4 35 = .ok (.iload_n 0, 1) := by decide +kernel
theorem dJ6_bitCount_0f7a4_36 : decode cJ6_bitCount_0f7a4 36 = .ok (.bipush 8, 2) := by decide +kernel
theorem dJ6_bitCount_0f7a4_38 : decode cJ6_bitCount_0f7a4 38 = .ok (.iushr, 1) := by decide +kernel
theorem dJ6_bitCount_0f7a4_39 : decode cJ6_bitCount_0f7a4 39 = .ok (.iadd, 1) := by decide +kernel
theorem dJ6_bitCount_0f7a4_40 : decode cJ6_bitCount_0f7a4 40 = .ok (.istore_n 0, 1) := by decide +kernel
theorem dJ6_bitCount_0f7a4_41 : decode cJ6_bitCount_0f7a4 41 = .ok (.iload_n 0, 1) := by decide +kernel
theorem dJ6_bitCount_0f7a4_42 : decode cJ6_bitCount_0f7a4 42 = .ok (.iload_n 0, 1) := by decide +kernel
theorem dJ6_bitCount_0f7a4_43 : decode cJ6_bitCount_0f7a4 43 = .ok (.bipush 16, 2) := by decide +kernel
theorem dJ6_bitCount_0f7a4_45 : decode cJ6_bitCount_0f7a4 45 = .ok (.iushr, 1) := by decide +kernel
theorem dJ6_bitCount_0f7a4_46 : decode cJ6_bitCount_0f7a4 46 = .ok (.iadd, 1) := by decide +kernel
theorem dJ6_bitCount_0f7a4_47 : decode cJ6_bitCount_0f7a4 47 = .ok (.istore_n 0, 1) := by decide +kernel
theorem dJ6_bitCount_0f7a4_48 : decode cJ6_bitCount_0f7a4 48 = .ok (.iload_n 0, 1) := by decide +kernel
theorem dJ6_bitCount_0f7a4_49 : decode cJ6_bitCount_0f7a4 49 = .ok (.bipush 63, 2) := by decide +kernel
theorem dJ6_bitCount_0f7a4_51 : decode cJ6_bitCount_0f7a4 51 = .ok (.iand, 1) := by decide +kernel
theorem dJ6_bitCount_0f7a4_52 : decode cJ6_bitCount_0f7a4 52 = .ok (.ireturn, 1) := by decide +kernel
theorem dJ13_bitCount_95d88_0 : decode cJ13_bitCount_95d88 0 = .ok (.lload_n 0, 1) := by decide +kernel
theorem dJ13_bitCount_95d88_1 : decode cJ13_bitCount_95d88 1 = .ok (.lload_n 0, 1) := by decide +kernel
theorem dJ13_bitCount_95d88_2 : decode cJ13_bitCount_95d88 2 = .ok (.iconst 1, 1) := by decide +kernel
theorem dJ13_bitCount_95d88_3 : decode cJ13_bitCount_95d88 3 = .ok (.lushr, 1) := by decide +kernel
theorem dJ13_bitCount_95d88_4 : decode cJ13_bitCount_95d88 4 = .ok (.ldc2_w 314, 3) := by decide +kernel
theorem dJ13_bitCount_95d88_7 : decode cJ13_bitCount_95d88 7 = .ok (.land, 1) := by decide +kernel
theorem dJ13_bitCount_95d88_8 : decode cJ13_bitCount_95d88 8 = .ok (.lsub, 1) := by decide +kernel
theorem dJ13_bitCount_95d88_9 : decode cJ13_bitCount_95d88 9 = .ok (.lstore_n 0, 1) := by decide +kernel
theorem dJ13_bitCount_95d88_10 : decode cJ13_bitCount_95d88 10 = .ok (.lload_n 0, 1) := by decide +kernel
theorem dJ13_bitCount_95d88_11 : decode cJ13_bitCount_95d88 11 = .ok (.ldc2_w 316, 3) := by decide +kernel
theorem dJ13_bitCount_95d88_14 : decode cJ13_bitCount_95d88 14 = .ok (.land, 1) := by decide +kernel
theorem dJ13_bitCount_95d88_15 : decode cJ13_bitCount_95d88 15 = .ok (.lload_n 0, 1) := by decide +kernel
theorem dJ13_bitCount_95d88_16 : decode cJ13_bitCount_95d88 16 = .ok (.iconst 2, 1) := by decide +kernel
theorem dJ13_bitCount_95d88_17 : decode cJ13_bitCount_95d88 17 = .ok (.lushr, 1) := by decide +kernel
theorem dJ13_bitCount_95d88_18 : decode cJ13_bitCount_95d88 18 = .ok (.ldc2_w 316, 3) := by decide +kernel
theorem dJ13_bitCount_95d88_21 : decode cJ13_bitCount_95d88 21 = .ok (.land, 1) := by decide +kernel
theorem dJ13_bitCount_95d88_22 : decode cJ13_bitCount_95d88 22 = .ok (.ladd, 1) := by decide +kernel
theorem dJ13_bitCount_95d88_23 : decode cJ13_bitCount_95d88 23 = .ok (.lstore_n 0, 1) := by decide +kernel
theorem dJ13_bitCount_95d88_24 : decode cJ13_bitCount_95d88 24 = .ok (.lload_n 0, 1) := by decide +kernel
theorem dJ13_bitCount_95d88_25 : decode cJ13_bitCount_95d88 25 = .ok (.lload_n 0, 1) := by decide +kernel
theorem dJ13_bitCount_95d88_26 : decode cJ13_bitCount_95d88 26 = .ok (.iconst 4, 1) := by decide +kernel
theorem dJ13_bitCount_95d88_27 : decode cJ13_bitCount_95d88 27 = .ok (.lushr, 1) := by decide +kernel
theorem dJ13_bitCount_95d88_28 : decode cJ13_bitCount_95d88 28 = .ok (.ladd, 1) := by decide +kernel
theorem dJ13_bitCount_95d88_29 : decode cJ13_bitCount_95d88 29 = .ok (.ldc2_w 318, 3) := by decide +kernel
theorem dJ13_bitCount_95d88_32 : decode cJ13_bitCount_95d88 32 = .ok (.land, 1) := by decide +kernel
theorem dJ13_bitCount_95d88_33 : decode cJ13_bitCount_95d88 33 = .ok (.lstore_n 0, 1) := by decide +kernel
theorem dJ13_bitCount_95d88_34 : decode cJ13_bitCount_95d88 34 = .ok (.lload_n 0, 1) := by decide +kernel
theorem dJ13_bitCount_95d88_35 : decode cJ13_bitCount_95d88 35 = .ok (.lload_n 0, 1) := by decide +kernel
theorem dJ13_bitCount_95d88_36 : decode cJ13_bitCount_95d88 36 = .ok (.bipush 8, 2) := by decide +kernel
theorem dJ13_bitCount_95d88_38 : decode cJ13_bitCount_95d88 38 = .ok (.lushr, 1) := by decide +kernel
theorem dJ13_bitCount_95d88_39 : decode cJ13_bitCount_95d88 39 = .ok (.ladd, 1) := by decide +kernel
theorem dJ13_bitCount_95d88_40 : decode cJ13_bitCount_95d88 40 = .ok (.lstore_n 0, 1) := by decide +kernel
theorem dJ13_bitCount_95d88_41 : decode cJ13_bitCount_95d88 41 = .ok (.lload_n 0, 1) := by decide +kernel
theorem dJ13_bitCount_95d88_42 : decode cJ13_bitCount_95d88 42 = .ok (.lload_n 0, 1) := by decide +kernel
theorem dJ13_bitCount_95d88_43 : decode cJ13_bitCount_95d88 43 = .ok (.bipush 16, 2) := by decide +kernel
theorem dJ13_bitCount_95d88_45 : decode cJ13_bitCount_95d88 45 = .ok (.lushr, 1) := by decide +kernel
theorem dJ13_bitCount_95d88_46 : decode cJ13_bitCount_95d88 46 = .ok (.ladd, 1) := by decide +kernel
theorem dJ13_bitCount_95d88_47 : decode cJ13_bitCount_95d88 47 = .ok (.lstore_n 0, 1) := by decide +kernel
theorem dJ13_bitCount_95d88_48 : decode cJ13_bitCount_95d88 48 = .ok (.lload_n 0, 1) := by decide +kernel
theorem dJ13_bitCount_95d88_49 : decode cJ13_bitCount_95d88 49 = .ok (.lload_n 0, 1) := by decide +kernel
theorem dJ13_bitCount_95d88_50 : decode cJ13_bitCount_95d88 50 = .ok (.bipush 32, 2) := by decide +kernel
theorem dJ13_bitCount_95d88_52 : decode cJ13_bitCount_95d88 52 = .ok (.lushr, 1) := by decide +kernel
theorem dJ13_bitCount_95d88_53 : decode cJ13_bitCount_95d88 53 = .ok (.ladd, 1) := by decide +kernel
theorem dJ13_bitCount_95d88_54 : decode cJ13_bitCount_95d88 54 = .ok (.lstore_n 0, 1) := by decide +kernel
theorem dJ13_bitCount_95d88_55 : decode cJ13_bitCount_95d88 55 = .ok (.lload_n 0, 1) := by decide +kernel
theorem dJ13_bitCount_95d88_56 : decode cJ13_bitCount_95d88 56 = .ok (.l2i, 1) := by decide +kernel
theorem dJ13_bitCount_95d88_57 : decode cJ13_bitCount_95d88 57 = .ok (.bipush 127, 2) := by decide +kernel
theorem dJ13_bitCount_95d88_59 : decode cJ13_bitCount_95d88 59 = .ok (.iand, 1) := by decide +kernel
theorem dJ13_bitCount_95d88_60 : decode cJ13_bitCount_95d88 60 = .ok (.ireturn, 1) := by decide +kernel
theorem dJ9_max_7cf53_0 : decode cJ9_max_7cf53 0 = .ok (.iload_n 0, 1) := by decide +kernel
theorem dJ9_max_7cf53_1 : decode cJ9_max_7cf53 1 = .ok (.iload_n 1, 1) := by decide +kernel
theorem dJ9_max_7cf53_2 : decode cJ9_max_7cf53 2 = .ok (.if_icmp .lt 7, 3) := by decide +kernel
theorem dJ9_max_7cf53_5 : decode cJ9_max_7cf53 5 = .ok (.iload_n 0, 1) := by decide +kernel
theorem dJ9_max_7cf53_6 : decode cJ9_max_7cf53 6 = .ok (.goto 4, 3) := by decide +kernel
theorem dJ9_max_7cf53_9 : decode cJ9_max_7cf53 9 = .ok (.iload_n 1, 1) := by decide +kernel
theorem dJ9_max_7cf53_10 : decode cJ9_max_7cf53 10 = .ok (.ireturn, 1) := by decide +kernel
theorem dJ9_min_7cf53_0 : decode cJ9_min_7cf53 0 = .ok (.iload_n 0, 1) := by decide +kernel
theorem dJ9_min_7cf53_1 : decode cJ9_min_7cf53 1 = .ok (.iload_n 1, 1) := by decide +kernel
theorem dJ9_min_7cf53_2 : decode cJ9_min_7cf53 2 = .ok (.if_icmp .gt 7, 3) := by decide +kernel
theorem dJ9_min_7cf53_5 : decode cJ9_min_7cf53 5 = .ok (.iload_n 0, 1) := by decide +kernel
theorem dJ9_min_7cf53_6 : decode cJ9_min_7cf53 6 = .ok (.goto 4, 3) := by decide +kernel
theorem dJ9_min_7cf53_9 : decode cJ9_min_7cf53 9 = .ok (.iload_n 1, 1) := by decide +kernel
theorem dJ9_min_7cf53_10 : decode cJ9_min_7cf53 10 = .ok (.ireturn, 1) := by decide +kernel
theorem dX0_init_0 : decode cX0_init 0 = .ok (.aload_n 0, 1) := by decide +kernel
theorem dX0_init_1 : decode cX0_init 1 = .ok (.invokespecial 3, 3) := by decide +kernel
theorem dX0_init_4 : decode cX0_init 4 = .ok (.aload_n 0, 1) := by decide +kernel
theorem dX0_init_5 : decode cX0_init 5 = .ok (.iconst 4, 1) := by decide +kernel
theorem dX0_init_6 : decode cX0_init 6 = .ok (.newarray .int, 2) := by decide +kernel
theorem dX0_init_8 : decode cX0_init 8 = .ok (.putfield 9, 3) := by decide +kernel
theorem dX0_init_11 : decode cX0_init 11 = .ok (.aload_n 0, 1) := by decide +kernel
theorem dX0_init_12 : decode cX0_init 12 = .ok (.iconst 4, 1) := by decide +kernel
theorem dX0_init_13 : decode cX0_init 13 = .ok (.newarray .int, 2) := by decide +kernel
theorem dX0_init_15 : decode cX0_init 15 = .ok (.putfield 15, 3) := by decide +kernel
theorem dX0_init_18 : decode cX0_init 18 = .ok (.aload_n 0, 1) := by decide +kernel
theorem dX0_init_19 : decode cX0_init 19 = .ok (.iconst 0, 1) := by decide +kernel
theorem dX0_init_20 : decode cX0_init 20 = .ok (.putfield 18, 3) := by decide +kernel
theorem dX0_init_23 : decode cX0_init 23 = .ok (.return_, 1) := by decide +kernel
theorem dX0_size_0 : decode cX0_size 0 = .ok (.aload_n 0, 1) := by decide +kernel
theorem dX0_size_1 : decode cX0_size 1 = .ok (.getfield 18, 3) := by decide +kernel
theorem dX0_size_4 : decode cX0_size 4 = .ok (.ireturn, 1) := by decide +kernel
theorem dX0_add_0 : decode cX0_add 0 = .ok (.aload_n 0, 1) := by decide +kernel
theorem dX0_add_1 : decode cX0_add 1 = .ok (.getfield 18, 3) := by decide +kernel
theorem dX0_add_4 : decode cX0_add 4 = .ok (.iconst 4, 1) := by decide +kernel
theorem dX0_add_5 : decode cX0_add 5 = .ok (.if_icmp .lt 6, 3) := by decide +kernel
theorem dX0_add_8 : decode cX0_add 8 = .ok (.bipush (-3), 2) := by decide +kernel
theorem dX0_add_10 : decode cX0_add 10 = .ok (.ireturn, 1) := by decide +kernel
theorem dX0_add_11 : decode cX0_add 11 = .ok (.aload_n 0, 1) := by decide +kernel
theorem dX0_add_12 : decode cX0_add 12 = .ok (.getfield 9, 3) := by decide +kernel
theorem dX0_add_15 : decode cX0_add 15 = .ok (.aload_n 0, 1) := by decide +kernel
theorem dX0_add_16 : decode cX0_add 16 = .ok (.getfield 18, 3) := by decide +kernel
theorem dX0_add_19 : decode cX0_add 19 = .ok (.iload_n 1, 1) := by decide +kernel
theorem dX0_add_20 : decode cX0_add 20 = .ok (.iastore, 1) := by decide +kernel
theorem dX0_add_21 : decode cX0_add 21 = .ok (.aload_n 0, 1) := by decide +kernel
theorem dX0_add_22 : decode cX0_add 22 = .ok (.getfield 15, 3) := by decide +kernel
theorem dX0_add_25 : decode cX0_add 25 = .ok (.aload_n 0, 1) := by decide +kernel
theorem dX0_add_26 : decode cX0_add 26 = .ok (.getfield 18, 3) := by decide +kernel
theorem dX0_add_29 : decode cX0_add 29 = .ok (.iload_n 2, 1) := by decide +kernel
theorem dX0_add_30 : decode cX0_add 30 = .ok (.iastore, 1) := by decide +kernel
theorem dX0_add_31 : decode cX0_add 31 = .ok (.aload_n 0, 1) := by decide +kernel
theorem dX0_add_32 : decode cX0_add 32 = .ok (.dup, 1) := by decide +kernel
theorem dX0_add_33 : decode cX0_add 33 = .ok (.getfield 18, 3) := by decide +kernel
theorem dX0_add_36 : decode cX0_add 36 = .ok (.iconst 1, 1) := by decide +kernel
theorem dX0_add_37 : decode cX0_add 37 = .ok (.iadd, 1) := by decide +kernel
theorem dX0_add_38 : decode cX0_add 38 = .ok (.putfield 18, 3) := by decide +kernel
theorem dX0_add_41 : decode cX0_add 41 = .ok (.aload_n 0, 1) := by decide +kernel
theorem dX0_add_42 : decode cX0_add 42 = .ok (.getfield 18, 3) := by decide +kernel
theorem dX0_add_45 : decode cX0_add 45 = .ok (.iconst 1, 1) := by decide +kernel
theorem dX0_add_46 : decode cX0_add 46 = .ok (.isub, 1) := by decide +kernel
theorem dX0_add_47 : decode cX0_add 47 = .ok (.ireturn, 1) := by decide +kernel
theorem dX0_shareOf_0 : decode cX0_shareOf 0 = .ok (.aload_n 0, 1) := by decide +kernel
theorem dX0_shareOf_1 : decode cX0_shareOf 1 = .ok (.getfield 9, 3) := by decide +kernel
theorem dX0_shareOf_4 : decode cX0_shareOf 4 = .ok (.iload_n 1, 1) := by decide +kernel
theorem dX0_shareOf_5 : decode cX0_shareOf 5 = .ok (.iaload, 1) := by decide +kernel
theorem dX0_shareOf_6 : decode cX0_shareOf 6 = .ok (.ireturn, 1) := by decide +kernel
theorem dX0_struckBy_0 : decode cX0_struckBy 0 = .ok (.aload_n 0, 1) := by decide +kernel
theorem dX0_struckBy_1 : decode cX0_struckBy 1 = .ok (.getfield 15, 3) := by decide +kernel
theorem dX0_struckBy_4 : decode cX0_struckBy 4 = .ok (.iload_n 1, 1) := by decide +kernel
theorem dX0_struckBy_5 : decode cX0_struckBy 5 = .ok (.iaload, 1) := by decide +kernel
theorem dX0_struckBy_6 : decode cX0_struckBy 6 = .ok (.ireturn, 1) := by decide +kernel
theorem dX0_striking_0 : decode cX0_striking 0 = .ok (.iconst 0, 1) := by decide +kernel
theorem dX0_striking_1 : decode cX0_striking 1 = .ok (.istore_n 2, 1) := by decide +kernel
theorem dX0_striking_2 : decode cX0_striking 2 = .ok (.iconst 0, 1) := by decide +kernel
theorem dX0_striking_3 : decode cX0_striking 3 = .ok (.istore_n 3, 1) := by decide +kernel
theorem dX0_striking_4 : decode cX0_striking 4 = .ok (.iload_n 3, 1) := by decide +kernel
theorem dX0_striking_5 : decode cX0_striking 5 = .ok (.aload_n 0, 1) := by decide +kernel
theorem dX0_striking_6 : decode cX0_striking 6 = .ok (.getfield 18, 3) := by decide +kernel
theorem dX0_striking_9 : decode cX0_striking 9 = .ok (.if_icmp .ge 26, 3) := by decide +kernel
theorem dX0_striking_12 : decode cX0_striking 12 = .ok (.aload_n 0, 1) := by decide +kernel
theorem dX0_striking_13 : decode cX0_striking 13 = .ok (.getfield 15, 3) := by decide +kernel
theorem dX0_striking_16 : decode cX0_striking 16 = .ok (.iload_n 3, 1) := by decide +kernel
theorem dX0_striking_17 : decode cX0_striking 17 = .ok (.iaload, 1) := by decide +kernel
theorem dX0_striking_18 : decode cX0_striking 18 = .ok (.iload_n 1, 1) := by decide +kernel
theorem dX0_striking_19 : decode cX0_striking 19 = .ok (.iand, 1) := by decide +kernel
theorem dX0_striking_20 : decode cX0_striking 20 = .ok (.ifCond .eq 9, 3) := by decide +kernel
theorem dX0_striking_23 : decode cX0_striking 23 = .ok (.iload_n 2, 1) := by decide +kernel
theorem dX0_striking_24 : decode cX0_striking 24 = .ok (.iconst 1, 1) := by decide +kernel
theorem dX0_striking_25 : decode cX0_striking 25 = .ok (.iload_n 3, 1) := by decide +kernel
theorem dX0_striking_26 : decode cX0_striking 26 = .ok (.ishl, 1) := by decide +kernel
theorem dX0_striking_27 : decode cX0_striking 27 = .ok (.ior, 1) := by decide +kernel
theorem dX0_striking_28 : decode cX0_striking 28 = .ok (.istore_n 2, 1) := by decide +kernel
theorem dX0_striking_29 : decode cX0_striking 29 = .ok (.iinc 3 1, 3) := by decide +kernel
theorem dX0_striking_32 : decode cX0_striking 32 = .ok (.goto (-28), 3) := by decide +kernel
theorem dX0_striking_35 : decode cX0_striking 35 = .ok (.iload_n 2, 1) := by decide +kernel
theorem dX0_striking_36 : decode cX0_striking 36 = .ok (.ireturn, 1) := by decide +kernel
theorem dX1_init_0 : decode cX1_init 0 = .ok (.aload_n 0, 1) := by decide +kernel
theorem dX1_init_1 : decode cX1_init 1 = .ok (.invokespecial 3, 3) := by decide +kernel
theorem dX1_init_4 : decode cX1_init 4 = .ok (.aload_n 0, 1) := by decide +kernel
theorem dX1_init_5 : decode cX1_init 5 = .ok (.sipush 256, 3) := by decide +kernel
theorem dX1_init_8 : decode cX1_init 8 = .ok (.newarray .long, 2) := by decide +kernel
theorem dX1_init_10 : decode cX1_init 10 = .ok (.putfield 9, 3) := by decide +kernel
theorem dX1_init_13 : decode cX1_init 13 = .ok (.aload_n 0, 1) := by decide +kernel
theorem dX1_init_14 : decode cX1_init 14 = .ok (.sipush 256, 3) := by decide +kernel
theorem dX1_init_17 : decode cX1_init 17 = .ok (.newarray .long, 2) := by decide +kernel
theorem dX1_init_19 : decode cX1_init 19 = .ok (.putfield 15, 3) := by decide +kernel
theorem dX1_init_22 : decode cX1_init 22 = .ok (.aload_n 0, 1) := by decide +kernel
theorem dX1_init_23 : decode cX1_init 23 = .ok (.bipush 8, 2) := by decide +kernel
theorem dX1_init_25 : decode cX1_init 25 = .ok (.newarray .int, 2) := by decide +kernel
theorem dX1_init_27 : decode cX1_init 27 = .ok (.putfield 18, 3) := by decide +kernel
theorem dX1_init_30 : decode cX1_init 30 = .ok (.aload_n 0, 1) := by decide +kernel
theorem dX1_init_31 : decode cX1_init 31 = .ok (.bipush 8, 2) := by decide +kernel
theorem dX1_init_33 : decode cX1_init 33 = .ok (.newarray .int, 2) := by decide +kernel
theorem dX1_init_35 : decode cX1_init 35 = .ok (.putfield 22, 3) := by decide +kernel
theorem dX1_init_38 : decode cX1_init 38 = .ok (.aload_n 0, 1) := by decide +kernel
theorem dX1_init_39 : decode cX1_init 39 = .ok (.iconst 0, 1) := by decide +kernel
theorem dX1_init_40 : decode cX1_init 40 = .ok (.putfield 25, 3) := by decide +kernel
theorem dX1_init_43 : decode cX1_init 43 = .ok (.aload_n 0, 1) := by decide +kernel
theorem dX1_init_44 : decode cX1_init 44 = .ok (.iconst 0, 1) := by decide +kernel
theorem dX1_init_45 : decode cX1_init 45 = .ok (.putfield 29, 3) := by decide +kernel
theorem dX1_init_48 : decode cX1_init 48 = .ok (.aload_n 0, 1) := by decide +kernel
theorem dX1_init_49 : decode cX1_init 49 = .ok (.aload_n 1, 1) := by decide +kernel
theorem dX1_init_50 : decode cX1_init 50 = .ok (.putfield 32, 3) := by decide +kernel
theorem dX1_init_53 : decode cX1_init 53 = .ok (.aload_n 0, 1) := by decide +kernel
theorem dX1_init_54 : decode cX1_init 54 = .ok (.aload_n 2, 1) := by decide +kernel
theorem dX1_init_55 : decode cX1_init 55 = .ok (.putfield 36, 3) := by decide +kernel
theorem dX1_init_58 : decode cX1_init 58 = .ok (.aload_n 0, 1) := by decide +kernel
theorem dX1_init_59 : decode cX1_init 59 = .ok (.aload_n 3, 1) := by decide +kernel
theorem dX1_init_60 : decode cX1_init 60 = .ok (.putfield 40, 3) := by decide +kernel
theorem dX1_init_63 : decode cX1_init 63 = .ok (.return_, 1) := by decide +kernel
theorem dX1_groupsOf_0 : decode cX1_groupsOf 0 = .ok (.aload_n 0, 1) := by decide +kernel
theorem dX1_groupsOf_1 : decode cX1_groupsOf 1 = .ok (.getfield 36, 3) := by decide +kernel
theorem dX1_groupsOf_4 : decode cX1_groupsOf 4 = .ok (.aload_n 0, 1) := by decide +kernel
theorem dX1_groupsOf_5 : decode cX1_groupsOf 5 = .ok (.getfield 40, 3) := by decide +kernel
theorem dX1_groupsOf_8 : decode cX1_groupsOf 8 = .ok (.iload_n 1, 1) := by decide +kernel
theorem dX1_groupsOf_9 : decode cX1_groupsOf 9 = .ok (.invokevirtual 44, 3) := by decide +kernel
theorem dX1_groupsOf_12 : decode cX1_groupsOf 12 = .ok (.invokevirtual 50, 3) := by decide +kernel
theorem dX1_groupsOf_15 : decode cX1_groupsOf 15 = .ok (.ireturn, 1) := by decide +kernel
theorem dX1_eventsOf_0 : decode cX1_eventsOf 0 = .ok (.aload_n 0, 1) := by decide +kernel
theorem dX1_eventsOf_1 : decode cX1_eventsOf 1 = .ok (.getfield 40, 3) := by decide +kernel
theorem dX1_eventsOf_4 : decode cX1_eventsOf 4 = .ok (.iload_n 1, 1) := by decide +kernel
theorem dX1_eventsOf_5 : decode cX1_eventsOf 5 = .ok (.invokevirtual 55, 3) := by decide +kernel
theorem dX1_eventsOf_8 : decode cX1_eventsOf 8 = .ok (.aload_n 0, 1) := by decide +kernel
theorem dX1_eventsOf_9 : decode cX1_eventsOf 9 = .ok (.iload_n 1, 1) := by decide +kernel
theorem dX1_eventsOf_10 : decode cX1_eventsOf 10 = .ok (.invokevirtual 58, 3) := by decide +kernel
theorem dX1_eventsOf_13 : decode cX1_eventsOf 13 = .ok (.invokestatic 61, 3) := by decide +kernel
theorem dX1_eventsOf_16 : decode cX1_eventsOf 16 = .ok (.iadd, 1) := by decide +kernel
theorem dX1_eventsOf_17 : decode cX1_eventsOf 17 = .ok (.ireturn, 1) := by decide +kernel
theorem dX1_hasTooManyEvents_0 : decode cX1_hasTooManyEvents 0 = .ok (.aload_n 0, 1) := by decide +kernel
theorem dX1_hasTooManyEvents_1 : decode cX1_hasTooManyEvents 1 = .ok (.iload_n 1, 1) := by decide +kernel
theorem dX1_hasTooManyEvents_2 : decode cX1_hasTooManyEvents 2 = .ok (.invokevirtual 66, 3) := by decide +kernel
theorem dX1_hasTooManyEvents_5 : decode cX1_hasTooManyEvents 5 = .ok (.bipush 8, 2) := by decide +kernel
theorem dX1_hasTooManyEvents_7 : decode cX1_hasTooManyEvents 7 = .ok (.if_icmp .le 7, 3) := by decide +kernel
theorem dX1_hasTooManyEvents_10 : decode cX1_hasTooManyEvents 10 = .ok (.iconst 1, 1) := by decide +kernel
theorem dX1_hasTooManyEvents_11 : decode cX1_hasTooManyEvents 11 = .ok (.goto 4, 3) := by decide +kernel
theorem dX1_hasTooManyEvents_14 : decode cX1_hasTooManyEvents 14 = .ok (.iconst 0, 1) := by decide +kernel
theorem dX1_hasTooManyEvents_15 : decode cX1_hasTooManyEvents 15 = .ok (.ireturn, 1) := by decide +kernel
theorem dX1_startFailing_0 : decode cX1_startFailing 0 = .ok (.aload_n 0, 1) := by decide +kernel
theorem dX1_startFailing_1 : decode cX1_startFailing 1 = .ok (.iload_n 1, 1) := by decide +kernel
theorem dX1_startFailing_2 : decode cX1_startFailing 2 = .ok (.invokevirtual 69, 3) := by decide +kernel
theorem dX1_startFailing_5 : decode cX1_startFailing 5 = .ok (.iconst 1, 1) := by decide +kernel
theorem dX1_startFailing_6 : decode cX1_startFailing 6 = .ok (.aload_n 0, 1) := by decide +kernel
theorem dX1_startFailing_7 : decode cX1_startFailing 7 = .ok (.getfield 25, 3) := by decide +kernel
theorem dX1_startFailing_10 : decode cX1_startFailing 10 = .ok (.ishl, 1) := by decide +kernel
theorem dX1_startFailing_11 : decode cX1_startFailing 11 = .ok (.istore_n 2, 1) := by decide +kernel
theorem dX1_startFailing_12 : decode cX1_startFailing 12 = .ok (.iconst 0, 1) := by decide +kernel
theorem dX1_startFailing_13 : decode cX1_startFailing 13 = .ok (.istore_n 3, 1) := by decide +kernel
theorem dX1_startFailing_14 : decode cX1_startFailing 14 = .ok (.iload_n 3, 1) := by decide +kernel
theorem dX1_startFailing_15 : decode cX1_startFailing 15 = .ok (.iload_n 2, 1) := by decide +kernel
theorem dX1_startFailing_16 : decode cX1_startFailing 16 = .ok (.if_icmp .ge 36, 3) := by decide +kernel
theorem dX1_startFailing_19 : decode cX1_startFailing 19 = .ok (.aload_n 0, 1) := by decide +kernel
theorem dX1_startFailing_20 : decode cX1_startFailing 20 = .ok (.getfield 9, 3) := by decide +kernel
theorem dX1_startFailing_23 : decode cX1_startFailing 23 = .ok (.iload_n 3, 1) := by decide +kernel
theorem dX1_startFailing_24 : decode cX1_startFailing 24 = .ok (.aload_n 0, 1) := by decide +kernel
theorem dX1_startFailing_25 : decode cX1_startFailing 25 = .ok (.getfield 40, 3) := by decide +kernel
theorem dX1_startFailing_28 : decode cX1_startFailing 28 = .ok (.iload_n 1, 1) := by decide +kernel
theorem dX1_startFailing_29 : decode cX1_startFailing 29 = .ok (.iload_n 2, 1) := by decide +kernel
theorem dX1_startFailing_30 : decode cX1_startFailing 30 = .ok (.iconst 1, 1) := by decide +kernel
theorem dX1_startFailing_31 : decode cX1_startFailing 31 = .ok (.isub, 1) := by decide +kernel
theorem dX1_startFailing_32 : decode cX1_startFailing 32 = .ok (.iload_n 3, 1) := by decide +kernel
theorem dX1_startFailing_33 : decode cX1_startFailing 33 = .ok (.isub, 1) := by decide +kernel
theorem dX1_startFailing_34 : decode cX1_startFailing 34 = .ok (.invokevirtual 73, 3) := by decide +kernel
theorem dX1_startFailing_37 : decode cX1_startFailing 37 = .ok (.ifCond .eq 7, 3) := by decide +kernel
theorem dX1_startFailing_40 : decode cX1_startFailing 40 = .ok (.lconst 0, 1) := by decide +kernel
theorem dX1_startFailing_41 : decode cX1_startFailing 41 = .ok (.goto 4, 3) := by decide +kernel
theorem dX1_startFailing_44 : decode cX1_startFailing 44 = .ok (.lconst 1, 1) := by decide +kernel
theorem dX1_startFailing_45 : decode cX1_startFailing 45 = .ok (.lastore, 1) := by decide +kernel
theorem dX1_startFailing_46 : decode cX1_startFailing 46 = .ok (.iinc 3 1, 3) := by decide +kernel
theorem dX1_startFailing_49 : decode cX1_startFailing 49 = .ok (.goto (-35), 3) := by decide +kernel
theorem dX1_startFailing_52 : decode cX1_startFailing 52 = .ok (.iconst 0, 1) := by decide +kernel
theorem dX1_startFailing_53 : decode cX1_startFailing 53 = .ok (.istore_n 3, 1) := by decide +kernel
theorem dX1_startFailing_54 : decode cX1_startFailing 54 = .ok (.iload_n 3, 1) := by decide +kernel
theorem dX1_startFailing_55 : decode cX1_startFailing 55 = .ok (.aload_n 0, 1) := by decide +kernel
theorem dX1_startFailing_56 : decode cX1_startFailing 56 = .ok (.getfield 36, 3) := by decide +kernel
theorem dX1_startFailing_59 : decode cX1_startFailing 59 = .ok (.invokevirtual 77, 3) := by decide +kernel
theorem dX1_startFailing_62 : decode cX1_startFailing 62 = .ok (.if_icmp .ge 50, 3) := by decide +kernel
theorem dX1_startFailing_65 : decode cX1_startFailing 65 = .ok (.aload_n 0, 1) := by decide +kernel
theorem dX1_startFailing_66 : decode cX1_startFailing 66 = .ok (.getfield 36, 3) := by decide +kernel
theorem dX1_startFailing_69 : decode cX1_startFailing 69 = .ok (.iload_n 3, 1) := by decide +kernel
theorem dX1_startFailing_70 : decode cX1_startFailing 70 = .ok (.invokevirtual 80, 3) := by decide +kernel
theorem dX1_startFailing_73 : decode cX1_startFailing 73 = .ok (.aload_n 0, 1) := by decide +kernel
theorem dX1_startFailing_74 : decode cX1_startFailing 74 = .ok (.getfield 40, 3) := by decide +kernel
theorem dX1_startFailing_77 : decode cX1_startFailing 77 = .ok (.iload_n 1, 1) := by decide +kernel
theorem dX1_startFailing_78 : decode cX1_startFailing 78 = .ok (.invokevirtual 44, 3) := by decide +kernel
theorem dX1_startFailing_81 : decode cX1_startFailing 81 = .ok (.invokestatic 83, 3) := by decide +kernel
theorem dX1_startFailing_84 : decode cX1_startFailing 84 = .ok (.istore 4, 2) := by decide +kernel
theorem dX1_startFailing_86 : decode cX1_startFailing 86 = .ok (.iload 4, 2) := by decide +kernel
theorem dX1_startFailing_88 : decode cX1_startFailing 88 = .ok (.ifCond .eq 18, 3) := by decide +kernel
theorem dX1_startFailing_91 : decode cX1_startFailing 91 = .ok (.aload_n 0, 1) := by decide +kernel
theorem dX1_startFailing_92 : decode cX1_startFailing 92 = .ok (.iload 4, 2) := by decide +kernel
theorem dX1_startFailing_94 : decode cX1_startFailing 94 = .ok (.aload_n 0, 1) := by decide +kernel
theorem dX1_startFailing_95 : decode cX1_startFailing 95 = .ok (.getfield 36, 3) := by decide +kernel
theorem dX1_startFailing_98 : decode cX1_startFailing 98 = .ok (.iload_n 3, 1) := by decide +kernel
theorem dX1_startFailing_99 : decode cX1_startFailing 99 = .ok (.invokevirtual 87, 3) := by decide +kernel
theorem dX1_startFailing_102 : decode cX1_startFailing 102 = .ok (.i2l, 1) := by decide +kernel
theorem dX1_startFailing_103 : decode cX1_startFailing 103 = .ok (.invokevirtual 90, 3) := by decide +kernel
theorem dX1_startFailing_106 : decode cX1_startFailing 106 = .ok (.iinc 3 1, 3) := by decide +kernel
theorem dX1_startFailing_109 : decode cX1_startFailing 109 = .ok (.goto (-55), 3) := by decide +kernel
theorem dX1_startFailing_112 : decode cX1_startFailing 112 = .ok (.return_, 1) := by decide +kernel
theorem dX1_onDay_0 : decode cX1_onDay 0 = .ok (.aload_n 0, 1) := by decide +kernel
theorem dX1_onDay_1 : decode cX1_onDay 1 = .ok (.iload_n 1, 1) := by decide +kernel
theorem dX1_onDay_2 : decode cX1_onDay 2 = .ok (.invokevirtual 94, 3) := by decide +kernel
theorem dX1_onDay_5 : decode cX1_onDay 5 = .ok (.aload_n 0, 1) := by decide +kernel
theorem dX1_onDay_6 : decode cX1_onDay 6 = .ok (.invokevirtual 97, 3) := by decide +kernel
theorem dX1_onDay_9 : decode cX1_onDay 9 = .ok (.lreturn, 1) := by decide +kernel
theorem dX1_forNothing_0 : decode cX1_forNothing 0 = .ok (.aload_n 0, 1) := by decide +kernel
theorem dX1_forNothing_1 : decode cX1_forNothing 1 = .ok (.iload_n 1, 1) := by decide +kernel
theorem dX1_forNothing_2 : decode cX1_forNothing 2 = .ok (.invokevirtual 69, 3) := by decide +kernel
theorem dX1_forNothing_5 : decode cX1_forNothing 5 = .ok (.iconst 1, 1) := by decide +kernel
theorem dX1_forNothing_6 : decode cX1_forNothing 6 = .ok (.aload_n 0, 1) := by decide +kernel
theorem dX1_forNothing_7 : decode cX1_forNothing 7 = .ok (.getfield 25, 3) := by decide +kernel
theorem dX1_forNothing_10 : decode cX1_forNothing 10 = .ok (.ishl, 1) := by decide +kernel
theorem dX1_forNothing_11 : decode cX1_forNothing 11 = .ok (.istore_n 2, 1) := by decide +kernel
theorem dX1_forNothing_12 : decode cX1_forNothing 12 = .ok (.iconst 0, 1) := by decide +kernel
theorem dX1_forNothing_13 : decode cX1_forNothing 13 = .ok (.istore_n 3, 1) := by decide +kernel
theorem dX1_forNothing_14 : decode cX1_forNothing 14 = .ok (.iload_n 3, 1) := by decide +kernel
theorem dX1_forNothing_15 : decode cX1_forNothing 15 = .ok (.iload_n 2, 1) := by decide +kernel
theorem dX1_forNothing_16 : decode cX1_forNothing 16 = .ok (.if_icmp .ge 32, 3) := by decide +kernel
theorem dX1_forNothing_19 : decode cX1_forNothing 19 = .ok (.aload_n 0, 1) := by decide +kernel
theorem dX1_forNothing_20 : decode cX1_forNothing 20 = .ok (.getfield 9, 3) := by decide +kernel
theorem dX1_forNothing_23 : decode cX1_forNothing 23 = .ok (.iload_n 3, 1) := by decide +kernel
theorem dX1_forNothing_24 : decode cX1_forNothing 24 = .ok (.aload_n 0, 1) := by decide +kernel
theorem dX1_forNothing_25 : decode cX1_forNothing 25 = .ok (.getfield 40, 3) := by decide +kernel
theorem dX1_forNothing_28 : decode cX1_forNothing 28 = .ok (.iload_n 1, 1) := by decide +kernel
theorem dX1_forNothing_29 : decode cX1_forNothing 29 = .ok (.iload_n 3, 1) := by decide +kernel
theorem dX1_forNothing_30 : decode cX1_forNothing 30 = .ok (.invokevirtual 73, 3) := by decide +kernel
theorem dX1_forNothing_33 : decode cX1_forNothing 33 = .ok (.ifCond .eq 7, 3) := by decide +kernel
theorem dX1_forNothing_36 : decode cX1_forNothing 36 = .ok (.lconst 1, 1) := by decide +kernel
theorem dX1_forNothing_37 : decode cX1_forNothing 37 = .ok (.goto 4, 3) := by decide +kernel
theorem dX1_forNothing_40 : decode cX1_forNothing 40 = .ok (.lconst 0, 1) := by decide +kernel
theorem dX1_forNothing_41 : decode cX1_forNothing 41 = .ok (.lastore, 1) := by decide +kernel
theorem dX1_forNothing_42 : decode cX1_forNothing 42 = .ok (.iinc 3 1, 3) := by decide +kernel
theorem dX1_forNothing_45 : decode cX1_forNothing 45 = .ok (.goto (-31), 3) := by decide +kernel
theorem dX1_forNothing_48 : decode cX1_forNothing 48 = .ok (.iconst 0, 1) := by decide +kernel
theorem dX1_forNothing_49 : decode cX1_forNothing 49 = .ok (.istore_n 3, 1) := by decide +kernel
theorem dX1_forNothing_50 : decode cX1_forNothing 50 = .ok (.iload_n 3, 1) := by decide +kernel
theorem dX1_forNothing_51 : decode cX1_forNothing 51 = .ok (.aload_n 0, 1) := by decide +kernel
theorem dX1_forNothing_52 : decode cX1_forNothing 52 = .ok (.getfield 25, 3) := by decide +kernel
theorem dX1_forNothing_55 : decode cX1_forNothing 55 = .ok (.if_icmp .ge 28, 3) := by decide +kernel
theorem dX1_forNothing_58 : decode cX1_forNothing 58 = .ok (.aload_n 0, 1) := by decide +kernel
theorem dX1_forNothing_59 : decode cX1_forNothing 59 = .ok (.getfield 22, 3) := by decide +kernel
theorem dX1_forNothing_62 : decode cX1_forNothing 62 = .ok (.iload_n 3, 1) := by decide +kernel
theorem dX1_forNothing_63 : decode cX1_forNothing 63 = .ok (.aload_n 0, 1) := by decide +kernel
theorem dX1_forNothing_64 : decode cX1_forNothing 64 = .ok (.getfield 32, 3) := by decide +kernel
theorem dX1_forNothing_67 : decode cX1_forNothing 67 = .ok (.aload_n 0, 1) := by decide +kernel
theorem dX1_forNothing_68 : decode cX1_forNothing 68 = .ok (.getfield 18, 3) := by decide +kernel
theorem dX1_forNothing_71 : decode cX1_forNothing 71 = .ok (.iload_n 3, 1) := by decide +kernel
theorem dX1_forNothing_72 : decode cX1_forNothing 72 = .ok (.iaload, 1) := by decide +kernel
theorem dX1_forNothing_73 : decode cX1_forNothing 73 = .ok (.invokevirtual 101, 3) := by decide +kernel
theorem dX1_forNothing_76 : decode cX1_forNothing 76 = .ok (.iastore, 1) := by decide +kernel
theorem dX1_forNothing_77 : decode cX1_forNothing 77 = .ok (.iinc 3 1, 3) := by decide +kernel
theorem dX1_forNothing_80 : decode cX1_forNothing 80 = .ok (.goto (-30), 3) := by decide +kernel
theorem dX1_forNothing_83 : decode cX1_forNothing 83 = .ok (.aload_n 0, 1) := by decide +kernel
theorem dX1_forNothing_84 : decode cX1_forNothing 84 = .ok (.invokevirtual 97, 3) := by decide +kernel
theorem dX1_forNothing_87 : decode cX1_forNothing 87 = .ok (.lreturn, 1) := by decide +kernel
theorem dX1_weightOf_0 : decode cX1_weightOf 0 = .ok (.aload_n 0, 1) := by decide +kernel
theorem dX1_weightOf_1 : decode cX1_weightOf 1 = .ok (.iload_n 2, 1) := by decide +kernel
theorem dX1_weightOf_2 : decode cX1_weightOf 2 = .ok (.invokevirtual 94, 3) := by decide +kernel
theorem dX1_weightOf_5 : decode cX1_weightOf 5 = .ok (.iconst 0, 1) := by decide +kernel
theorem dX1_weightOf_6 : decode cX1_weightOf 6 = .ok (.istore_n 3, 1) := by decide +kernel
theorem dX1_weightOf_7 : decode cX1_weightOf 7 = .ok (.iload_n 3, 1) := by decide +kernel
theorem dX1_weightOf_8 : decode cX1_weightOf 8 = .ok (.aload_n 0, 1) := by decide +kernel
theorem dX1_weightOf_9 : decode cX1_weightOf 9 = .ok (.getfield 25, 3) := by decide +kernel
theorem dX1_weightOf_12 : decode cX1_weightOf 12 = .ok (.if_icmp .ge 25, 3) := by decide +kernel
theorem dX1_weightOf_15 : decode cX1_weightOf 15 = .ok (.aload_n 0, 1) := by decide +kernel
theorem dX1_weightOf_16 : decode cX1_weightOf 16 = .ok (.getfield 18, 3) := by decide +kernel
theorem dX1_weightOf_19 : decode cX1_weightOf 19 = .ok (.iload_n 3, 1) := by decide +kernel
theorem dX1_weightOf_20 : decode cX1_weightOf 20 = .ok (.iaload, 1) := by decide +kernel
theorem dX1_weightOf_21 : decode cX1_weightOf 21 = .ok (.iload_n 1, 1) := by decide +kernel
theorem dX1_weightOf_22 : decode cX1_weightOf 22 = .ok (.if_icmp .ne 9, 3) := by decide +kernel
theorem dX1_weightOf_25 : decode cX1_weightOf 25 = .ok (.aload_n 0, 1) := by decide +kernel
theorem dX1_weightOf_26 : decode cX1_weightOf 26 = .ok (.iload_n 3, 1) := by decide +kernel
theorem dX1_weightOf_27 : decode cX1_weightOf 27 = .ok (.invokevirtual 106, 3) := by decide +kernel
theorem dX1_weightOf_30 : decode cX1_weightOf 30 = .ok (.lreturn, 1) := by decide +kernel
theorem dX1_weightOf_31 : decode cX1_weightOf 31 = .ok (.iinc 3 1, 3) := by decide +kernel
theorem dX1_weightOf_34 : decode cX1_weightOf 34 = .ok (.goto (-27), 3) := by decide +kernel
theorem dX1_weightOf_37 : decode cX1_weightOf 37 = .ok (.lconst 0, 1) := by decide +kernel
theorem dX1_weightOf_38 : decode cX1_weightOf 38 = .ok (.lreturn, 1) := by decide +kernel
theorem dX1_weightiestPart_0 : decode cX1_weightiestPart 0 = .ok (.aload_n 0, 1) := by decide +kernel
theorem dX1_weightiestPart_1 : decode cX1_weightiestPart 1 = .ok (.iload_n 1, 1) := by decide +kernel
theorem dX1_weightiestPart_2 : decode cX1_weightiestPart 2 = .ok (.invokevirtual 94, 3) := by decide +kernel
theorem dX1_weightiestPart_5 : decode cX1_weightiestPart 5 = .ok (.iconst 0, 1) := by decide +kernel
theorem dX1_weightiestPart_6 : decode cX1_weightiestPart 6 = .ok (.istore_n 2, 1) := by decide +kernel
theorem dX1_weightiestPart_7 : decode cX1_weightiestPart 7 = .ok (.aload_n 0, 1) := by decide +kernel
theorem dX1_weightiestPart_8 : decode cX1_weightiestPart 8 = .ok (.iconst 0, 1) := by decide +kernel
theorem dX1_weightiestPart_9 : decode cX1_weightiestPart 9 = .ok (.invokevirtual 106, 3) := by decide +kernel
theorem dX1_weightiestPart_12 : decode cX1_weightiestPart 12 = .ok (.lstore_n 3, 1) := by decide +kernel
theorem dX1_weightiestPart_13 : decode cX1_weightiestPart 13 = .ok (.iconst 1, 1) := by decide +kernel
theorem dX1_weightiestPart_14 : decode cX1_weightiestPart 14 = .ok (.istore 5, 2) := by decide +kernel
theorem dX1_weightiestPart_16 : decode cX1_weightiestPart 16 = .ok (.iload 5, 2) := by decide +kernel
theorem dX1_weightiestPart_18 : decode cX1_weightiestPart 18 = .ok (.aload_n 0, 1) := by decide +kernel
theorem dX1_weightiestPart_19 : decode cX1_weightiestPart 19 = .ok (.getfield 25, 3) := by decide +kernel
theorem dX1_weightiestPart_22 : decode cX1_weightiestPart 22 = .ok (.if_icmp .ge 30, 3) := by decide +kernel
theorem dX1_weightiestPart_25 : decode cX1_weightiestPart 25 = .ok (.aload_n 0, 1) := by decide +kernel
theorem dX1_weightiestPart_26 : decode cX1_weightiestPart 26 = .ok (.iload 5, 2) := by decide +kernel
theorem dX1_weightiestPart_28 : decode cX1_weightiestPart 28 = .ok (.invokevirtual 106, 3) := by decide +kernel
theorem dX1_weightiestPart_31 : decode cX1_weightiestPart 31 = .ok (.lstore 6, 2) := by decide +kernel
theorem dX1_weightiestPart_33 : decode cX1_weightiestPart 33 = .ok (.lload 6, 2) := by decide +kernel
theorem dX1_weightiestPart_35 : decode cX1_weightiestPart 35 = .ok (.lload_n 3, 1) := by decide +kernel
theorem dX1_weightiestPart_36 : decode cX1_weightiestPart 36 = .ok (.lcmp, 1) := by decide +kernel
theorem dX1_weightiestPart_37 : decode cX1_weightiestPart 37 = .ok (.ifCond .le 9, 3) := by decide +kernel
theorem dX1_weightiestPart_40 : decode cX1_weightiestPart 40 = .ok (.iload 5, 2) := by decide +kernel
theorem dX1_weightiestPart_42 : decode cX1_weightiestPart 42 = .ok (.istore_n 2, 1) := by decide +kernel
theorem dX1_weightiestPart_43 : decode cX1_weightiestPart 43 = .ok (.lload 6, 2) := by decide +kernel
theorem dX1_weightiestPart_45 : decode cX1_weightiestPart 45 = .ok (.lstore_n 3, 1) := by decide +kernel
theorem dX1_weightiestPart_46 : decode cX1_weightiestPart 46 = .ok (.iinc 5 1, 3) := by decide +kernel
theorem dX1_weightiestPart_49 : decode cX1_weightiestPart 49 = .ok (.goto (-33), 3) := by decide +kernel
theorem dX1_weightiestPart_52 : decode cX1_weightiestPart 52 = .ok (.aload_n 0, 1) := by decide +kernel
theorem dX1_weightiestPart_53 : decode cX1_weightiestPart 53 = .ok (.getfield 18, 3) := by decide +kernel
theorem dX1_weightiestPart_56 : decode cX1_weightiestPart 56 = .ok (.iload_n 2, 1) := by decide +kernel
theorem dX1_weightiestPart_57 : decode cX1_weightiestPart 57 = .ok (.iaload, 1) := by decide +kernel
theorem dX1_weightiestPart_58 : decode cX1_weightiestPart 58 = .ok (.ireturn, 1) := by decide +kernel
theorem dX1_memberCount_0 : decode cX1_memberCount 0 = .ok (.aload_n 0, 1) := by decide +kernel
theorem dX1_memberCount_1 : decode cX1_memberCount 1 = .ok (.getfield 25, 3) := by decide +kernel
theorem dX1_memberCount_4 : decode cX1_memberCount 4 = .ok (.ireturn, 1) := by decide +kernel
theorem dX1_memberAt_0 : decode cX1_memberAt 0 = .ok (.aload_n 0, 1) := by decide +kernel
theorem dX1_memberAt_1 : decode cX1_memberAt 1 = .ok (.getfield 18, 3) := by decide +kernel
theorem dX1_memberAt_4 : decode cX1_memberAt 4 = .ok (.iload_n 1, 1) := by decide +kernel
theorem dX1_memberAt_5 : decode cX1_memberAt 5 = .ok (.iaload, 1) := by decide +kernel
theorem dX1_memberAt_6 : decode cX1_memberAt 6 = .ok (.ireturn, 1) := by decide +kernel
theorem dX1_setShare_0 : decode cX1_setShare 0 = .ok (.aload_n 0, 1) := by decide +kernel
theorem dX1_setShare_1 : decode cX1_setShare 1 = .ok (.getfield 22, 3) := by decide +kernel
theorem dX1_setShare_4 : decode cX1_setShare 4 = .ok (.iload_n 1, 1) := by decide +kernel
theorem dX1_setShare_5 : decode cX1_setShare 5 = .ok (.iload_n 2, 1) := by decide +kernel
theorem dX1_setShare_6 : decode cX1_setShare 6 = .ok (.iastore, 1) := by decide +kernel
theorem dX1_setShare_7 : decode cX1_setShare 7 = .ok (.return_, 1) := by decide +kernel
theorem dX1_sum_0 : decode cX1_sum 0 = .ok (.aload_n 0, 1) := by decide +kernel
theorem dX1_sum_1 : decode cX1_sum 1 = .ok (.getfield 9, 3) := by decide +kernel
theorem dX1_sum_4 : decode cX1_sum 4 = .ok (.iconst 0, 1) := by decide +kernel
theorem dX1_sum_5 : decode cX1_sum 5 = .ok (.aload_n 0, 1) := by decide +kernel
theorem dX1_sum_6 : decode cX1_sum 6 = .ok (.getfield 15, 3) := by decide +kernel
theorem dX1_sum_9 : decode cX1_sum 9 = .ok (.iconst 0, 1) := by decide +kernel
theorem dX1_sum_10 : decode cX1_sum 10 = .ok (.iconst 1, 1) := by decide +kernel
theorem dX1_sum_11 : decode cX1_sum 11 = .ok (.aload_n 0, 1) := by decide +kernel
theorem dX1_sum_12 : decode cX1_sum 12 = .ok (.getfield 25, 3) := by decide +kernel
theorem dX1_sum_15 : decode cX1_sum 15 = .ok (.ishl, 1) := by decide +kernel
theorem dX1_sum_16 : decode cX1_sum 16 = .ok (.invokestatic 110, 3) := by decide +kernel
theorem dX1_sum_19 : decode cX1_sum 19 = .ok (.aload_n 0, 1) := by decide +kernel
theorem dX1_sum_20 : decode cX1_sum 20 = .ok (.getfield 25, 3) := by decide +kernel
theorem dX1_sum_23 : decode cX1_sum 23 = .ok (.iconst 1, 1) := by decide +kernel
theorem dX1_sum_24 : decode cX1_sum 24 = .ok (.isub, 1) := by decide +kernel
theorem dX1_sum_25 : decode cX1_sum 25 = .ok (.istore_n 1, 1) := by decide +kernel
theorem dX1_sum_26 : decode cX1_sum 26 = .ok (.iload_n 1, 1) := by decide +kernel
theorem dX1_sum_27 : decode cX1_sum 27 = .ok (.ifCond .lt 68, 3) := by decide +kernel
theorem dX1_sum_30 : decode cX1_sum 30 = .ok (.iconst 1, 1) := by decide +kernel
theorem dX1_sum_31 : decode cX1_sum 31 = .ok (.iload_n 1, 1) := by decide +kernel
theorem dX1_sum_32 : decode cX1_sum 32 = .ok (.ishl, 1) := by decide +kernel
theorem dX1_sum_33 : decode cX1_sum 33 = .ok (.istore_n 2, 1) := by decide +kernel
theorem dX1_sum_34 : decode cX1_sum 34 = .ok (.aload_n 0, 1) := by decide +kernel
theorem dX1_sum_35 : decode cX1_sum 35 = .ok (.getfield 22, 3) := by decide +kernel
theorem dX1_sum_38 : decode cX1_sum 38 = .ok (.iload_n 1, 1) := by decide +kernel
theorem dX1_sum_39 : decode cX1_sum 39 = .ok (.iaload, 1) := by decide +kernel
theorem dX1_sum_40 : decode cX1_sum 40 = .ok (.i2l, 1) := by decide +kernel
theorem dX1_sum_41 : decode cX1_sum 41 = .ok (.lstore_n 3, 1) := by decide +kernel
theorem dX1_sum_42 : decode cX1_sum 42 = .ok (.iconst 0, 1) := by decide +kernel
theorem dX1_sum_43 : decode cX1_sum 43 = .ok (.istore 5, 2) := by decide +kernel
theorem dX1_sum_45 : decode cX1_sum 45 = .ok (.iload 5, 2) := by decide +kernel
theorem dX1_sum_47 : decode cX1_sum 47 = .ok (.iload_n 2, 1) := by decide +kernel
theorem dX1_sum_48 : decode cX1_sum 48 = .ok (.if_icmp .ge 41, 3) := by decide +kernel
theorem dX1_sum_51 : decode cX1_sum 51 = .ok (.aload_n 0, 1) := by decide +kernel
theorem dX1_sum_52 : decode cX1_sum 52 = .ok (.getfield 15, 3) := by decide +kernel
theorem dX1_sum_55 : decode cX1_sum 55 = .ok (.iload 5, 2) := by decide +kernel
theorem dX1_sum_57 : decode cX1_sum 57 = .ok (.ldc2_w 116, 3) := by decide +kernel
theorem dX1_sum_60 : decode cX1_sum 60 = .ok (.lload_n 3, 1) := by decide +kernel
theorem dX1_sum_61 : decode cX1_sum 61 = .ok (.lsub, 1) := by decide +kernel
theorem dX1_sum_62 : decode cX1_sum 62 = .ok (.aload_n 0, 1) := by decide +kernel
theorem dX1_sum_63 : decode cX1_sum 63 = .ok (.getfield 15, 3) := by decide +kernel
theorem dX1_sum_66 : decode cX1_sum 66 = .ok (.iload 5, 2) := by decide +kernel
theorem dX1_sum_68 : decode cX1_sum 68 = .ok (.laload, 1) := by decide +kernel
theorem dX1_sum_69 : decode cX1_sum 69 = .ok (.lmul, 1) := by decide +kernel
theorem dX1_sum_70 : decode cX1_sum 70 = .ok (.lload_n 3, 1) := by decide +kernel
theorem dX1_sum_71 : decode cX1_sum 71 = .ok (.aload_n 0, 1) := by decide +kernel
theorem dX1_sum_72 : decode cX1_sum 72 = .ok (.getfield 15, 3) := by decide +kernel
theorem dX1_sum_75 : decode cX1_sum 75 = .ok (.iload 5, 2) := by decide +kernel
theorem dX1_sum_77 : decode cX1_sum 77 = .ok (.iload_n 2, 1) := by decide +kernel
theorem dX1_sum_78 : decode cX1_sum 78 = .ok (.iadd, 1) := by decide +kernel
theorem dX1_sum_79 : decode cX1_sum 79 = .ok (.laload, 1) := by decide +kernel
theorem dX1_sum_80 : decode cX1_sum 80 = .ok (.lmul, 1) := by decide +kernel
theorem dX1_sum_81 : decode cX1_sum 81 = .ok (.ladd, 1) := by decide +kernel
theorem dX1_sum_82 : decode cX1_sum 82 = .ok (.lastore, 1) := by decide +kernel
theorem dX1_sum_83 : decode cX1_sum 83 = .ok (.iinc 5 1, 3) := by decide +kernel
theorem dX1_sum_86 : decode cX1_sum 86 = .ok (.goto (-41), 3) := by decide +kernel
theorem dX1_sum_89 : decode cX1_sum 89 = .ok (.iinc 1 (-1), 3) := by decide +kernel
theorem dX1_sum_92 : decode cX1_sum 92 = .ok (.goto (-66), 3) := by decide +kernel
theorem dX1_sum_95 : decode cX1_sum 95 = .ok (.aload_n 0, 1) := by decide +kernel
theorem dX1_sum_96 : decode cX1_sum 96 = .ok (.getfield 15, 3) := by decide +kernel
theorem dX1_sum_99 : decode cX1_sum 99 = .ok (.iconst 0, 1) := by decide +kernel
theorem dX1_sum_100 : decode cX1_sum 100 = .ok (.laload, 1) := by decide +kernel
theorem dX1_sum_101 : decode cX1_sum 101 = .ok (.bipush 6, 2) := by decide +kernel
theorem dX1_sum_103 : decode cX1_sum 103 = .ok (.bipush 8, 2) := by decide +kernel
theorem dX1_sum_105 : decode cX1_sum 105 = .ok (.aload_n 0, 1) := by decide +kernel
theorem dX1_sum_106 : decode cX1_sum 106 = .ok (.getfield 29, 3) := by decide +kernel
theorem dX1_sum_109 : decode cX1_sum 109 = .ok (.isub, 1) := by decide +kernel
theorem dX1_sum_110 : decode cX1_sum 110 = .ok (.imul, 1) := by decide +kernel
theorem dX1_sum_111 : decode cX1_sum 111 = .ok (.lshl, 1) := by decide +kernel
theorem dX1_sum_112 : decode cX1_sum 112 = .ok (.lreturn, 1) := by decide +kernel
theorem dX1_takeMembers_0 : decode cX1_takeMembers 0 = .ok (.aload_n 0, 1) := by decide +kernel
theorem dX1_takeMembers_1 : decode cX1_takeMembers 1 = .ok (.iconst 0, 1) := by decide +kernel
theorem dX1_takeMembers_2 : decode cX1_takeMembers 2 = .ok (.putfield 25, 3) := by decide +kernel
theorem dX1_takeMembers_5 : decode cX1_takeMembers 5 = .ok (.iconst 0, 1) := by decide +kernel
theorem dX1_takeMembers_6 : decode cX1_takeMembers 6 = .ok (.istore_n 2, 1) := by decide +kernel
theorem dX1_takeMembers_7 : decode cX1_takeMembers 7 = .ok (.iload_n 2, 1) := by decide +kernel
theorem dX1_takeMembers_8 : decode cX1_takeMembers 8 = .ok (.bipush 12, 2) := by decide +kernel
theorem dX1_takeMembers_10 : decode cX1_takeMembers 10 = .ok (.if_icmp .ge 53, 3) := by decide +kernel
theorem dX1_takeMembers_13 : decode cX1_takeMembers 13 = .ok (.aload_n 0, 1) := by decide +kernel
theorem dX1_takeMembers_14 : decode cX1_takeMembers 14 = .ok (.getfield 25, 3) := by decide +kernel
theorem dX1_takeMembers_17 : decode cX1_takeMembers 17 = .ok (.bipush 8, 2) := by decide +kernel
theorem dX1_takeMembers_19 : decode cX1_takeMembers 19 = .ok (.if_icmp .ge 44, 3) := by decide +kernel
theorem dX1_takeMembers_22 : decode cX1_takeMembers 22 = .ok (.aload_n 0, 1) := by decide +kernel
theorem dX1_takeMembers_23 : decode cX1_takeMembers 23 = .ok (.getfield 40, 3) := by decide +kernel
theorem dX1_takeMembers_26 : decode cX1_takeMembers 26 = .ok (.iload_n 1, 1) := by decide +kernel
theorem dX1_takeMembers_27 : decode cX1_takeMembers 27 = .ok (.invokevirtual 44, 3) := by decide +kernel
theorem dX1_takeMembers_30 : decode cX1_takeMembers 30 = .ok (.iload_n 2, 1) := by decide +kernel
theorem dX1_takeMembers_31 : decode cX1_takeMembers 31 = .ok (.invokestatic 118, 3) := by decide +kernel
theorem dX1_takeMembers_34 : decode cX1_takeMembers 34 = .ok (.ifCond .eq 23, 3) := by decide +kernel
theorem dX1_takeMembers_37 : decode cX1_takeMembers 37 = .ok (.aload_n 0, 1) := by decide +kernel
theorem dX1_takeMembers_38 : decode cX1_takeMembers 38 = .ok (.getfield 18, 3) := by decide +kernel
theorem dX1_takeMembers_41 : decode cX1_takeMembers 41 = .ok (.aload_n 0, 1) := by decide +kernel
theorem dX1_takeMembers_42 : decode cX1_takeMembers 42 = .ok (.getfield 25, 3) := by decide +kernel
theorem dX1_takeMembers_45 : decode cX1_takeMembers 45 = .ok (.iload_n 2, 1) := by decide +kernel
theorem dX1_takeMembers_46 : decode cX1_takeMembers 46 = .ok (.iastore, 1) := by decide +kernel
theorem dX1_takeMembers_47 : decode cX1_takeMembers 47 = .ok (.aload_n 0, 1) := by decide +kernel
theorem dX1_takeMembers_48 : decode cX1_takeMembers 48 = .ok (.dup, 1) := by decide +kernel
theorem dX1_takeMembers_49 : decode cX1_takeMembers 49 = .ok (.getfield 25, 3) := by decide +kernel
theorem dX1_takeMembers_52 : decode cX1_takeMembers 52 = .ok (.iconst 1, 1) := by decide +kernel
theorem dX1_takeMembers_53 : decode cX1_takeMembers 53 = .ok (.iadd, 1) := by decide +kernel
theorem dX1_takeMembers_54 : decode cX1_takeMembers 54 = .ok (.putfield 25, 3) := by decide +kernel
theorem dX1_takeMembers_57 : decode cX1_takeMembers 57 = .ok (.iinc 2 1, 3) := by decide +kernel
theorem dX1_takeMembers_60 : decode cX1_takeMembers 60 = .ok (.goto (-53), 3) := by decide +kernel
theorem dX1_takeMembers_63 : decode cX1_takeMembers 63 = .ok (.aload_n 0, 1) := by decide +kernel
theorem dX1_takeMembers_64 : decode cX1_takeMembers 64 = .ok (.aload_n 0, 1) := by decide +kernel
theorem dX1_takeMembers_65 : decode cX1_takeMembers 65 = .ok (.getfield 25, 3) := by decide +kernel
theorem dX1_takeMembers_68 : decode cX1_takeMembers 68 = .ok (.putfield 29, 3) := by decide +kernel
theorem dX1_takeMembers_71 : decode cX1_takeMembers 71 = .ok (.return_, 1) := by decide +kernel
theorem dX1_workIn_0 : decode cX1_workIn 0 = .ok (.iconst 1, 1) := by decide +kernel
theorem dX1_workIn_1 : decode cX1_workIn 1 = .ok (.aload_n 0, 1) := by decide +kernel
theorem dX1_workIn_2 : decode cX1_workIn 2 = .ok (.getfield 25, 3) := by decide +kernel
theorem dX1_workIn_5 : decode cX1_workIn 5 = .ok (.ishl, 1) := by decide +kernel
theorem dX1_workIn_6 : decode cX1_workIn 6 = .ok (.istore 4, 2) := by decide +kernel
theorem dX1_workIn_8 : decode cX1_workIn 8 = .ok (.iconst 0, 1) := by decide +kernel
theorem dX1_workIn_9 : decode cX1_workIn 9 = .ok (.istore 5, 2) := by decide +kernel
theorem dX1_workIn_11 : decode cX1_workIn 11 = .ok (.iload 5, 2) := by decide +kernel
theorem dX1_workIn_13 : decode cX1_workIn 13 = .ok (.iload 4, 2) := by decide +kernel
theorem dX1_workIn_15 : decode cX1_workIn 15 = .ok (.if_icmp .ge 41, 3) := by decide +kernel
theorem dX1_workIn_18 : decode cX1_workIn 18 = .ok (.aload_n 0, 1) := by decide +kernel
theorem dX1_workIn_19 : decode cX1_workIn 19 = .ok (.getfield 9, 3) := by decide +kernel
theorem dX1_workIn_22 : decode cX1_workIn 22 = .ok (.iload 5, 2) := by decide +kernel
theorem dX1_workIn_24 : decode cX1_workIn 24 = .ok (.ldc2_w 116, 3) := by decide +kernel
theorem dX1_workIn_27 : decode cX1_workIn 27 = .ok (.lload_n 2, 1) := by decide +kernel
theorem dX1_workIn_28 : decode cX1_workIn 28 = .ok (.lsub, 1) := by decide +kernel
theorem dX1_workIn_29 : decode cX1_workIn 29 = .ok (.aload_n 0, 1) := by decide +kernel
theorem dX1_workIn_30 : decode cX1_workIn 30 = .ok (.getfield 9, 3) := by decide +kernel
theorem dX1_workIn_33 : decode cX1_workIn 33 = .ok (.iload 5, 2) := by decide +kernel
theorem dX1_workIn_35 : decode cX1_workIn 35 = .ok (.laload, 1) := by decide +kernel
theorem dX1_workIn_36 : decode cX1_workIn 36 = .ok (.lmul, 1) := by decide +kernel
theorem dX1_workIn_37 : decode cX1_workIn 37 = .ok (.lload_n 2, 1) := by decide +kernel
theorem dX1_workIn_38 : decode cX1_workIn 38 = .ok (.aload_n 0, 1) := by decide +kernel
theorem dX1_workIn_39 : decode cX1_workIn 39 = .ok (.getfield 9, 3) := by decide +kernel
theorem dX1_workIn_42 : decode cX1_workIn 42 = .ok (.iload 5, 2) := by decide +kernel
theorem dX1_workIn_44 : decode cX1_workIn 44 = .ok (.iload_n 1, 1) := by decide +kernel
theorem dX1_workIn_45 : decode cX1_workIn 45 = .ok (.ior, 1) := by decide +kernel
theorem dX1_workIn_46 : decode cX1_workIn 46 = .ok (.laload, 1) := by decide +kernel
theorem dX1_workIn_47 : decode cX1_workIn 47 = .ok (.lmul, 1) := by decide +kernel
theorem dX1_workIn_48 : decode cX1_workIn 48 = .ok (.ladd, 1) := by decide +kernel
theorem dX1_workIn_49 : decode cX1_workIn 49 = .ok (.lastore, 1) := by decide +kernel
theorem dX1_workIn_50 : decode cX1_workIn 50 = .ok (.iinc 5 1, 3) := by decide +kernel
theorem dX1_workIn_53 : decode cX1_workIn 53 = .ok (.goto (-42), 3) := by decide +kernel
theorem dX1_workIn_56 : decode cX1_workIn 56 = .ok (.aload_n 0, 1) := by decide +kernel
theorem dX1_workIn_57 : decode cX1_workIn 57 = .ok (.dup, 1) := by decide +kernel
theorem dX1_workIn_58 : decode cX1_workIn 58 = .ok (.getfield 29, 3) := by decide +kernel
theorem dX1_workIn_61 : decode cX1_workIn 61 = .ok (.iconst 1, 1) := by decide +kernel
theorem dX1_workIn_62 : decode cX1_workIn 62 = .ok (.iadd, 1) := by decide +kernel
theorem dX1_workIn_63 : decode cX1_workIn 63 = .ok (.putfield 29, 3) := by decide +kernel
theorem dX1_workIn_66 : decode cX1_workIn 66 = .ok (.return_, 1) := by decide +kernel
theorem dX1_takeSharesOn_0 : decode cX1_takeSharesOn 0 = .ok (.iconst 0, 1) := by decide +kernel
theorem dX1_takeSharesOn_1 : decode cX1_takeSharesOn 1 = .ok (.istore_n 2, 1) := by decide +kernel
theorem dX1_takeSharesOn_2 : decode cX1_takeSharesOn 2 = .ok (.iload_n 2, 1) := by decide +kernel
theorem dX1_takeSharesOn_3 : decode cX1_takeSharesOn 3 = .ok (.aload_n 0, 1) := by decide +kernel
theorem dX1_takeSharesOn_4 : decode cX1_takeSharesOn 4 = .ok (.getfield 25, 3) := by decide +kernel
theorem dX1_takeSharesOn_7 : decode cX1_takeSharesOn 7 = .ok (.if_icmp .ge 29, 3) := by decide +kernel
theorem dX1_takeSharesOn_10 : decode cX1_takeSharesOn 10 = .ok (.aload_n 0, 1) := by decide +kernel
theorem dX1_takeSharesOn_11 : decode cX1_takeSharesOn 11 = .ok (.getfield 22, 3) := by decide +kernel
theorem dX1_takeSharesOn_14 : decode cX1_takeSharesOn 14 = .ok (.iload_n 2, 1) := by decide +kernel
theorem dX1_takeSharesOn_15 : decode cX1_takeSharesOn 15 = .ok (.aload_n 0, 1) := by decide +kernel
theorem dX1_takeSharesOn_16 : decode cX1_takeSharesOn 16 = .ok (.getfield 32, 3) := by decide +kernel
theorem dX1_takeSharesOn_19 : decode cX1_takeSharesOn 19 = .ok (.aload_n 0, 1) := by decide +kernel
theorem dX1_takeSharesOn_20 : decode cX1_takeSharesOn 20 = .ok (.getfield 18, 3) := by decide +kernel
theorem dX1_takeSharesOn_23 : decode cX1_takeSharesOn 23 = .ok (.iload_n 2, 1) := by decide +kernel
theorem dX1_takeSharesOn_24 : decode cX1_takeSharesOn 24 = .ok (.iaload, 1) := by decide +kernel
theorem dX1_takeSharesOn_25 : decode cX1_takeSharesOn 25 = .ok (.iload_n 1, 1) := by decide +kernel
theorem dX1_takeSharesOn_26 : decode cX1_takeSharesOn 26 = .ok (.invokevirtual 121, 3) := by decide +kernel
theorem dX1_takeSharesOn_29 : decode cX1_takeSharesOn 29 = .ok (.iastore, 1) := by decide +kernel
theorem dX1_takeSharesOn_30 : decode cX1_takeSharesOn 30 = .ok (.iinc 2 1, 3) := by decide +kernel
theorem dX1_takeSharesOn_33 : decode cX1_takeSharesOn 33 = .ok (.goto (-31), 3) := by decide +kernel
theorem dX1_takeSharesOn_36 : decode cX1_takeSharesOn 36 = .ok (.return_, 1) := by decide +kernel
theorem dX1_weightAt_0 : decode cX1_weightAt 0 = .ok (.aload_n 0, 1) := by decide +kernel
theorem dX1_weightAt_1 : decode cX1_weightAt 1 = .ok (.getfield 22, 3) := by decide +kernel
theorem dX1_weightAt_4 : decode cX1_weightAt 4 = .ok (.iload_n 1, 1) := by decide +kernel
theorem dX1_weightAt_5 : decode cX1_weightAt 5 = .ok (.iaload, 1) := by decide +kernel
theorem dX1_weightAt_6 : decode cX1_weightAt 6 = .ok (.istore_n 2, 1) := by decide +kernel
theorem dX1_weightAt_7 : decode cX1_weightAt 7 = .ok (.aload_n 0, 1) := by decide +kernel
theorem dX1_weightAt_8 : decode cX1_weightAt 8 = .ok (.getfield 22, 3) := by decide +kernel
theorem dX1_weightAt_11 : decode cX1_weightAt 11 = .ok (.iload_n 1, 1) := by decide +kernel
theorem dX1_weightAt_12 : decode cX1_weightAt 12 = .ok (.bipush 64, 2) := by decide +kernel
theorem dX1_weightAt_14 : decode cX1_weightAt 14 = .ok (.iastore, 1) := by decide +kernel
theorem dX1_weightAt_15 : decode cX1_weightAt 15 = .ok (.aload_n 0, 1) := by decide +kernel
theorem dX1_weightAt_16 : decode cX1_weightAt 16 = .ok (.invokevirtual 97, 3) := by decide +kernel
theorem dX1_weightAt_19 : decode cX1_weightAt 19 = .ok (.lstore_n 3, 1) := by decide +kernel
theorem dX1_weightAt_20 : decode cX1_weightAt 20 = .ok (.aload_n 0, 1) := by decide +kernel
theorem dX1_weightAt_21 : decode cX1_weightAt 21 = .ok (.getfield 22, 3) := by decide +kernel
theorem dX1_weightAt_24 : decode cX1_weightAt 24 = .ok (.iload_n 1, 1) := by decide +kernel
theorem dX1_weightAt_25 : decode cX1_weightAt 25 = .ok (.iconst 0, 1) := by decide +kernel
theorem dX1_weightAt_26 : decode cX1_weightAt 26 = .ok (.iastore, 1) := by decide +kernel
theorem dX1_weightAt_27 : decode cX1_weightAt 27 = .ok (.aload_n 0, 1) := by decide +kernel
theorem dX1_weightAt_28 : decode cX1_weightAt 28 = .ok (.invokevirtual 97, 3) := by decide +kernel
theorem dX1_weightAt_31 : decode cX1_weightAt 31 = .ok (.lstore 5, 2) := by decide +kernel
theorem dX1_weightAt_33 : decode cX1_weightAt 33 = .ok (.aload_n 0, 1) := by decide +kernel
theorem dX1_weightAt_34 : decode cX1_weightAt 34 = .ok (.getfield 22, 3) := by decide +kernel
theorem dX1_weightAt_37 : decode cX1_weightAt 37 = .ok (.iload_n 1, 1) := by decide +kernel
theorem dX1_weightAt_38 : decode cX1_weightAt 38 = .ok (.iload_n 2, 1) := by decide +kernel
theorem dX1_weightAt_39 : decode cX1_weightAt 39 = .ok (.iastore, 1) := by decide +kernel
theorem dX1_weightAt_40 : decode cX1_weightAt 40 = .ok (.lload_n 3, 1) := by decide +kernel
theorem dX1_weightAt_41 : decode cX1_weightAt 41 = .ok (.lload 5, 2) := by decide +kernel
theorem dX1_weightAt_43 : decode cX1_weightAt 43 = .ok (.lsub, 1) := by decide +kernel
theorem dX1_weightAt_44 : decode cX1_weightAt 44 = .ok (.lreturn, 1) := by decide +kernel
theorem dX2_init_0 : decode cX2_init 0 = .ok (.aload_n 0, 1) := by decide +kernel
theorem dX2_init_1 : decode cX2_init 1 = .ok (.invokespecial 3, 3) := by decide +kernel
theorem dX2_init_4 : decode cX2_init 4 = .ok (.aload_n 0, 1) := by decide +kernel
theorem dX2_init_5 : decode cX2_init 5 = .ok (.bipush 12, 2) := by decide +kernel
theorem dX2_init_7 : decode cX2_init 7 = .ok (.newarray .int, 2) := by decide +kernel
theorem dX2_init_9 : decode cX2_init 9 = .ok (.putfield 9, 3) := by decide +kernel
theorem dX2_init_12 : decode cX2_init 12 = .ok (.aload_n 0, 1) := by decide +kernel
theorem dX2_init_13 : decode cX2_init 13 = .ok (.bipush 12, 2) := by decide +kernel
theorem dX2_init_15 : decode cX2_init 15 = .ok (.newarray .int, 2) := by decide +kernel
theorem dX2_init_17 : decode cX2_init 17 = .ok (.putfield 15, 3) := by decide +kernel
theorem dX2_init_20 : decode cX2_init 20 = .ok (.aload_n 0, 1) := by decide +kernel
theorem dX2_init_21 : decode cX2_init 21 = .ok (.bipush 12, 2) := by decide +kernel
theorem dX2_init_23 : decode cX2_init 23 = .ok (.newarray .int, 2) := by decide +kernel
theorem dX2_init_25 : decode cX2_init 25 = .ok (.putfield 18, 3) := by decide +kernel
theorem dX2_init_28 : decode cX2_init 28 = .ok (.aload_n 0, 1) := by decide +kernel
theorem dX2_init_29 : decode cX2_init 29 = .ok (.bipush 12, 2) := by decide +kernel
theorem dX2_init_31 : decode cX2_init 31 = .ok (.newarray .int, 2) := by decide +kernel
theorem dX2_init_33 : decode cX2_init 33 = .ok (.putfield 21, 3) := by decide +kernel
theorem dX2_init_36 : decode cX2_init 36 = .ok (.aload_n 0, 1) := by decide +kernel
theorem dX2_init_37 : decode cX2_init 37 = .ok (.bipush 12, 2) := by decide +kernel
theorem dX2_init_39 : decode cX2_init 39 = .ok (.newarray .int, 2) := by decide +kernel
theorem dX2_init_41 : decode cX2_init 41 = .ok (.putfield 24, 3) := by decide +kernel
theorem dX2_init_44 : decode cX2_init 44 = .ok (.aload_n 0, 1) := by decide +kernel
theorem dX2_init_45 : decode cX2_init 45 = .ok (.sipush 144, 3) := by decide +kernel
theorem dX2_init_48 : decode cX2_init 48 = .ok (.newarray .int, 2) := by decide +kernel
theorem dX2_init_50 : decode cX2_init 50 = .ok (.putfield 27, 3) := by decide +kernel
theorem dX2_init_53 : decode cX2_init 53 = .ok (.aload_n 0, 1) := by decide +kernel
theorem dX2_init_54 : decode cX2_init 54 = .ok (.sipush 192, 3) := by decide +kernel
theorem dX2_init_57 : decode cX2_init 57 = .ok (.newarray .long, 2) := by decide +kernel
theorem dX2_init_59 : decode cX2_init 59 = .ok (.putfield 30, 3) := by decide +kernel
theorem dX2_init_62 : decode cX2_init 62 = .ok (.aload_n 0, 1) := by decide +kernel
theorem dX2_init_63 : decode cX2_init 63 = .ok (.iconst 0, 1) := by decide +kernel
theorem dX2_init_64 : decode cX2_init 64 = .ok (.putfield 34, 3) := by decide +kernel
theorem dX2_init_67 : decode cX2_init 67 = .ok (.aload_n 0, 1) := by decide +kernel
theorem dX2_init_68 : decode cX2_init 68 = .ok (.iconst 0, 1) := by decide +kernel
theorem dX2_init_69 : decode cX2_init 69 = .ok (.putfield 38, 3) := by decide +kernel
theorem dX2_init_72 : decode cX2_init 72 = .ok (.return_, 1) := by decide +kernel
theorem dX2_has_0 : decode cX2_has 0 = .ok (.iload_n 1, 1) := by decide +kernel
theorem dX2_has_1 : decode cX2_has 1 = .ok (.ifCond .lt 15, 3) := by decide +kernel
theorem dX2_has_4 : decode cX2_has 4 = .ok (.iload_n 1, 1) := by decide +kernel
theorem dX2_has_5 : decode cX2_has 5 = .ok (.aload_n 0, 1) := by decide +kernel
theorem dX2_has_6 : decode cX2_has 6 = .ok (.getfield 38, 3) := by decide +kernel
theorem dX2_has_9 : decode cX2_has 9 = .ok (.if_icmp .ge 7, 3) := by decide +kernel
theorem dX2_has_12 : decode cX2_has 12 = .ok (.iconst 1, 1) := by decide +kernel
theorem dX2_has_13 : decode cX2_has 13 = .ok (.goto 4, 3) := by decide +kernel
theorem dX2_has_16 : decode cX2_has 16 = .ok (.iconst 0, 1) := by decide +kernel
theorem dX2_has_17 : decode cX2_has 17 = .ok (.ireturn, 1) := by decide +kernel
theorem dX2_hasAll_0 : decode cX2_hasAll 0 = .ok (.iload_n 1, 1) := by decide +kernel
theorem dX2_hasAll_1 : decode cX2_hasAll 1 = .ok (.aload_n 0, 1) := by decide +kernel
theorem dX2_hasAll_2 : decode cX2_hasAll 2 = .ok (.getfield 38, 3) := by decide +kernel
theorem dX2_hasAll_5 : decode cX2_hasAll 5 = .ok (.iushr, 1) := by decide +kernel
theorem dX2_hasAll_6 : decode cX2_hasAll 6 = .ok (.ifCond .ne 7, 3) := by decide +kernel
theorem dX2_hasAll_9 : decode cX2_hasAll 9 = .ok (.iconst 1, 1) := by decide +kernel
theorem dX2_hasAll_10 : decode cX2_hasAll 10 = .ok (.goto 4, 3) := by decide +kernel
theorem dX2_hasAll_13 : decode cX2_hasAll 13 = .ok (.iconst 0, 1) := by decide +kernel
theorem dX2_hasAll_14 : decode cX2_hasAll 14 = .ok (.ireturn, 1) := by decide +kernel
theorem dX2_size_0 : decode cX2_size 0 = .ok (.aload_n 0, 1) := by decide +kernel
theorem dX2_size_1 : decode cX2_size 1 = .ok (.getfield 38, 3) := by decide +kernel
theorem dX2_size_4 : decode cX2_size 4 = .ok (.ireturn, 1) := by decide +kernel
theorem dX2_add_0 : decode cX2_add 0 = .ok (.aload_n 0, 1) := by decide +kernel
theorem dX2_add_1 : decode cX2_add 1 = .ok (.getfield 38, 3) := by decide +kernel
theorem dX2_add_4 : decode cX2_add 4 = .ok (.bipush 12, 2) := by decide +kernel
theorem dX2_add_6 : decode cX2_add 6 = .ok (.if_icmp .lt 6, 3) := by decide +kernel
theorem dX2_add_9 : decode cX2_add 9 = .ok (.bipush (-3), 2) := by decide +kernel
theorem dX2_add_11 : decode cX2_add 11 = .ok (.ireturn, 1) := by decide +kernel
theorem dX2_add_12 : decode cX2_add 12 = .ok (.aload_n 0, 1) := by decide +kernel
theorem dX2_add_13 : decode cX2_add 13 = .ok (.getfield 9, 3) := by decide +kernel
theorem dX2_add_16 : decode cX2_add 16 = .ok (.aload_n 0, 1) := by decide +kernel
theorem dX2_add_17 : decode cX2_add 17 = .ok (.getfield 38, 3) := by decide +kernel
theorem dX2_add_20 : decode cX2_add 20 = .ok (.iload_n 1, 1) := by decide +kernel
theorem dX2_add_21 : decode cX2_add 21 = .ok (.iastore, 1) := by decide +kernel
theorem dX2_add_22 : decode cX2_add 22 = .ok (.aload_n 0, 1) := by decide +kernel
theorem dX2_add_23 : decode cX2_add 23 = .ok (.getfield 15, 3) := by decide +kernel
theorem dX2_add_26 : decode cX2_add 26 = .ok (.aload_n 0, 1) := by decide +kernel
theorem dX2_add_27 : decode cX2_add 27 = .ok (.getfield 38, 3) := by decide +kernel
theorem dX2_add_30 : decode cX2_add 30 = .ok (.iload_n 2, 1) := by decide +kernel
theorem dX2_add_31 : decode cX2_add 31 = .ok (.iastore, 1) := by decide +kernel
theorem dX2_add_32 : decode cX2_add 32 = .ok (.aload_n 0, 1) := by decide +kernel
theorem dX2_add_33 : decode cX2_add 33 = .ok (.getfield 18, 3) := by decide +kernel
theorem dX2_add_36 : decode cX2_add 36 = .ok (.aload_n 0, 1) := by decide +kernel
theorem dX2_add_37 : decode cX2_add 37 = .ok (.getfield 38, 3) := by decide +kernel
theorem dX2_add_40 : decode cX2_add 40 = .ok (.iload_n 3, 1) := by decide +kernel
theorem dX2_add_41 : decode cX2_add 41 = .ok (.iastore, 1) := by decide +kernel
theorem dX2_add_42 : decode cX2_add 42 = .ok (.aload_n 0, 1) := by decide +kernel
theorem dX2_add_43 : decode cX2_add 43 = .ok (.getfield 21, 3) := by decide +kernel
theorem dX2_add_46 : decode cX2_add 46 = .ok (.aload_n 0, 1) := by decide +kernel
theorem dX2_add_47 : decode cX2_add 47 = .ok (.getfield 38, 3) := by decide +kernel
theorem dX2_add_50 : decode cX2_add 50 = .ok (.iconst 1, 1) := by decide +kernel
theorem dX2_add_51 : decode cX2_add 51 = .ok (.iastore, 1) := by decide +kernel
theorem dX2_add_52 : decode cX2_add 52 = .ok (.aload_n 0, 1) := by decide +kernel
theorem dX2_add_53 : decode cX2_add 53 = .ok (.dup, 1) := by decide +kernel
theorem dX2_add_54 : decode cX2_add 54 = .ok (.getfield 38, 3) := by decide +kernel
theorem dX2_add_57 : decode cX2_add 57 = .ok (.iconst 1, 1) := by decide +kernel
theorem dX2_add_58 : decode cX2_add 58 = .ok (.iadd, 1) := by decide +kernel
theorem dX2_add_59 : decode cX2_add 59 = .ok (.putfield 38, 3) := by decide +kernel
theorem dX2_add_62 : decode cX2_add 62 = .ok (.aload_n 0, 1) := by decide +kernel
theorem dX2_add_63 : decode cX2_add 63 = .ok (.getfield 38, 3) := by decide +kernel
theorem dX2_add_66 : decode cX2_add 66 = .ok (.iconst 1, 1) := by decide +kernel
theorem dX2_add_67 : decode cX2_add 67 = .ok (.isub, 1) := by decide +kernel
theorem dX2_add_68 : decode cX2_add 68 = .ok (.ireturn, 1) := by decide +kernel
theorem dX2_addTest_0 : decode cX2_addTest 0 = .ok (.aload_n 0, 1) := by decide +kernel
theorem dX2_addTest_1 : decode cX2_addTest 1 = .ok (.getfield 24, 3) := by decide +kernel
theorem dX2_addTest_4 : decode cX2_addTest 4 = .ok (.iload_n 1, 1) := by decide +kernel
theorem dX2_addTest_5 : decode cX2_addTest 5 = .ok (.iaload, 1) := by decide +kernel
theorem dX2_addTest_6 : decode cX2_addTest 6 = .ok (.istore_n 3, 1) := by decide +kernel
theorem dX2_addTest_7 : decode cX2_addTest 7 = .ok (.iload_n 3, 1) := by decide +kernel
theorem dX2_addTest_8 : decode cX2_addTest 8 = .ok (.ifCond .le 23, 3) := by decide +kernel
theorem dX2_addTest_11 : decode cX2_addTest 11 = .ok (.iload_n 2, 1) := by decide +kernel
theorem dX2_addTest_12 : decode cX2_addTest 12 = .ok (.aload_n 0, 1) := by decide +kernel
theorem dX2_addTest_13 : decode cX2_addTest 13 = .ok (.getfield 27, 3) := by decide +kernel
theorem dX2_addTest_16 : decode cX2_addTest 16 = .ok (.iload_n 1, 1) := by decide +kernel
theorem dX2_addTest_17 : decode cX2_addTest 17 = .ok (.bipush 12, 2) := by decide +kernel
theorem dX2_addTest_19 : decode cX2_addTest 19 = .ok (.imul, 1) := by decide +kernel
theorem dX2_addTest_20 : decode cX2_addTest 20 = .ok (.iload_n 3, 1) := by decide +kernel
theorem dX2_addTest_21 : decode cX2_addTest 21 = .ok (.iadd, 1) := by decide +kernel
theorem dX2_addTest_22 : decode cX2_addTest 22 = .ok (.iconst 1, 1) := by decide +kernel
theorem dX2_addTest_23 : decode cX2_addTest 23 = .ok (.isub, 1) := by decide +kernel
theorem dX2_addTest_24 : decode cX2_addTest 24 = .ok (.iaload, 1) := by decide +kernel
theorem dX2_addTest_25 : decode cX2_addTest 25 = .ok (.if_icmp .gt 6, 3) := by decide +kernel
theorem dX2_addTest_28 : decode cX2_addTest 28 = .ok (.bipush (-2), 2) := by decide +kernel
theorem dX2_addTest_30 : decode cX2_addTest 30 = .ok (.ireturn, 1) := by decide +kernel
theorem dX2_addTest_31 : decode cX2_addTest 31 = .ok (.iload_n 3, 1) := by decide +kernel
theorem dX2_addTest_32 : decode cX2_addTest 32 = .ok (.bipush 12, 2) := by decide +kernel
theorem dX2_addTest_34 : decode cX2_addTest 34 = .ok (.if_icmp .lt 6, 3) := by decide +kernel
theorem dX2_addTest_37 : decode cX2_addTest 37 = .ok (.bipush (-3), 2) := by decide +kernel
theorem dX2_addTest_39 : decode cX2_addTest 39 = .ok (.ireturn, 1) := by decide +kernel
theorem dX2_addTest_40 : decode cX2_addTest 40 = .ok (.aload_n 0, 1) := by decide +kernel
theorem dX2_addTest_41 : decode cX2_addTest 41 = .ok (.getfield 27, 3) := by decide +kernel
theorem dX2_addTest_44 : decode cX2_addTest 44 = .ok (.iload_n 1, 1) := by decide +kernel
theorem dX2_addTest_45 : decode cX2_addTest 45 = .ok (.bipush 12, 2) := by decide +kernel
theorem dX2_addTest_47 : decode cX2_addTest 47 = .ok (.imul, 1) := by decide +kernel
theorem dX2_addTest_48 : decode cX2_addTest 48 = .ok (.iload_n 3, 1) := by decide +kernel
theorem dX2_addTest_49 : decode cX2_addTest 49 = .ok (.iadd, 1) := by decide +kernel
theorem dX2_addTest_50 : decode cX2_addTest 50 = .ok (.iload_n 2, 1) := by decide +kernel
theorem dX2_addTest_51 : decode cX2_addTest 51 = .ok (.iastore, 1) := by decide +kernel
theorem dX2_addTest_52 : decode cX2_addTest 52 = .ok (.aload_n 0, 1) := by decide +kernel
theorem dX2_addTest_53 : decode cX2_addTest 53 = .ok (.getfield 24, 3) := by decide +kernel
theorem dX2_addTest_56 : decode cX2_addTest 56 = .ok (.iload_n 1, 1) := by decide +kernel
theorem dX2_addTest_57 : decode cX2_addTest 57 = .ok (.iload_n 3, 1) := by decide +kernel
theorem dX2_addTest_58 : decode cX2_addTest 58 = .ok (.iconst 1, 1) := by decide +kernel
theorem dX2_addTest_59 : decode cX2_addTest 59 = .ok (.iadd, 1) := by decide +kernel
theorem dX2_addTest_60 : decode cX2_addTest 60 = .ok (.iastore, 1) := by decide +kernel
theorem dX2_addTest_61 : decode cX2_addTest 61 = .ok (.iload_n 3, 1) := by decide +kernel
theorem dX2_addTest_62 : decode cX2_addTest 62 = .ok (.iconst 1, 1) := by decide +kernel
theorem dX2_addTest_63 : decode cX2_addTest 63 = .ok (.iadd, 1) := by decide +kernel
theorem dX2_addTest_64 : decode cX2_addTest 64 = .ok (.ireturn, 1) := by decide +kernel
theorem dX2_dropTests_0 : decode cX2_dropTests 0 = .ok (.aload_n 0, 1) := by decide +kernel
theorem dX2_dropTests_1 : decode cX2_dropTests 1 = .ok (.iload_n 1, 1) := by decide +kernel
theorem dX2_dropTests_2 : decode cX2_dropTests 2 = .ok (.iload_n 2, 1) := by decide +kernel
theorem dX2_dropTests_3 : decode cX2_dropTests 3 = .ok (.iconst 1, 1) := by decide +kernel
theorem dX2_dropTests_4 : decode cX2_dropTests 4 = .ok (.isub, 1) := by decide +kernel
theorem dX2_dropTests_5 : decode cX2_dropTests 5 = .ok (.invokevirtual 41, 3) := by decide +kernel
theorem dX2_dropTests_8 : decode cX2_dropTests 8 = .ok (.istore_n 3, 1) := by decide +kernel
theorem dX2_dropTests_9 : decode cX2_dropTests 9 = .ok (.aload_n 0, 1) := by decide +kernel
theorem dX2_dropTests_10 : decode cX2_dropTests 10 = .ok (.getfield 24, 3) := by decide +kernel
theorem dX2_dropTests_13 : decode cX2_dropTests 13 = .ok (.iload_n 1, 1) := by decide +kernel
theorem dX2_dropTests_14 : decode cX2_dropTests 14 = .ok (.iaload, 1) := by decide +kernel
theorem dX2_dropTests_15 : decode cX2_dropTests 15 = .ok (.iload_n 3, 1) := by decide +kernel
theorem dX2_dropTests_16 : decode cX2_dropTests 16 = .ok (.isub, 1) := by decide +kernel
theorem dX2_dropTests_17 : decode cX2_dropTests 17 = .ok (.istore 4, 2) := by decide +kernel
theorem dX2_dropTests_19 : decode cX2_dropTests 19 = .ok (.aload_n 0, 1) := by decide +kernel
theorem dX2_dropTests_20 : decode cX2_dropTests 20 = .ok (.getfield 24, 3) := by decide +kernel
theorem dX2_dropTests_23 : decode cX2_dropTests 23 = .ok (.iload_n 1, 1) := by decide +kernel
theorem dX2_dropTests_24 : decode cX2_dropTests 24 = .ok (.iload_n 3, 1) := by decide +kernel
theorem dX2_dropTests_25 : decode cX2_dropTests 25 = .ok (.iastore, 1) := by decide +kernel
end
section
theorem dX2_dropTests_26 : decode cX2_dropTests 26 = .ok (.iload 4, 2) := by decide +kernel
theorem dX2_dropTests_28 : decode cX2_dropTests 28 = .ok (.ireturn, 1) := by decide +kernel
theorem dX2_allTests_0 : decode cX2_allTests 0 = .ok (.iconst 0, 1) := by decide +kernel
theorem dX2_allTests_1 : decode cX2_allTests 1 = .ok (.istore_n 1, 1) := by decide +kernel
theorem dX2_allTests_2 : decode cX2_allTests 2 = .ok (.iconst 0, 1) := by decide +kernel
theorem dX2_allTests_3 : decode cX2_allTests 3 = .ok (.istore_n 2, 1) := by decide +kernel
theorem dX2_allTests_4 : decode cX2_allTests 4 = .ok (.iload_n 2, 1) := by decide +kernel
theorem dX2_allTests_5 : decode cX2_allTests 5 = .ok (.aload_n 0, 1) := by decide +kernel
theorem dX2_allTests_6 : decode cX2_allTests 6 = .ok (.getfield 38, 3) := by decide +kernel
theorem dX2_allTests_9 : decode cX2_allTests 9 = .ok (.if_icmp .ge 18, 3) := by decide +kernel
theorem dX2_allTests_12 : decode cX2_allTests 12 = .ok (.iload_n 1, 1) := by decide +kernel
theorem dX2_allTests_13 : decode cX2_allTests 13 = .ok (.aload_n 0, 1) := by decide +kernel
theorem dX2_allTests_14 : decode cX2_allTests 14 = .ok (.getfield 24, 3) := by decide +kernel
theorem dX2_allTests_17 : decode cX2_allTests 17 = .ok (.iload_n 2, 1) := by decide +kernel
theorem dX2_allTests_18 : decode cX2_allTests 18 = .ok (.iaload, 1) := by decide +kernel
theorem dX2_allTests_19 : decode cX2_allTests 19 = .ok (.iadd, 1) := by decide +kernel
theorem dX2_allTests_20 : decode cX2_allTests 20 = .ok (.istore_n 1, 1) := by decide +kernel
theorem dX2_allTests_21 : decode cX2_allTests 21 = .ok (.iinc 2 1, 3) := by decide +kernel
theorem dX2_allTests_24 : decode cX2_allTests 24 = .ok (.goto (-20), 3) := by decide +kernel
theorem dX2_allTests_27 : decode cX2_allTests 27 = .ok (.iload_n 1, 1) := by decide +kernel
theorem dX2_allTests_28 : decode cX2_allTests 28 = .ok (.ireturn, 1) := by decide +kernel
theorem dX2_allBypasses_0 : decode cX2_allBypasses 0 = .ok (.aload_n 0, 1) := by decide +kernel
theorem dX2_allBypasses_1 : decode cX2_allBypasses 1 = .ok (.getfield 34, 3) := by decide +kernel
theorem dX2_allBypasses_4 : decode cX2_allBypasses 4 = .ok (.ireturn, 1) := by decide +kernel
theorem dX2_addBypass_0 : decode cX2_addBypass 0 = .ok (.aload_n 0, 1) := by decide +kernel
theorem dX2_addBypass_1 : decode cX2_addBypass 1 = .ok (.getfield 34, 3) := by decide +kernel
theorem dX2_addBypass_4 : decode cX2_addBypass 4 = .ok (.bipush 20, 2) := by decide +kernel
theorem dX2_addBypass_6 : decode cX2_addBypass 6 = .ok (.if_icmp .lt 6, 3) := by decide +kernel
theorem dX2_addBypass_9 : decode cX2_addBypass 9 = .ok (.bipush (-3), 2) := by decide +kernel
theorem dX2_addBypass_11 : decode cX2_addBypass 11 = .ok (.ireturn, 1) := by decide +kernel
theorem dX2_addBypass_12 : decode cX2_addBypass 12 = .ok (.iconst 0, 1) := by decide +kernel
theorem dX2_addBypass_13 : decode cX2_addBypass 13 = .ok (.istore 4, 2) := by decide +kernel
theorem dX2_addBypass_15 : decode cX2_addBypass 15 = .ok (.iload 4, 2) := by decide +kernel
theorem dX2_addBypass_17 : decode cX2_addBypass 17 = .ok (.bipush 16, 2) := by decide +kernel
theorem dX2_addBypass_19 : decode cX2_addBypass 19 = .ok (.if_icmp .ge 31, 3) := by decide +kernel
theorem dX2_addBypass_22 : decode cX2_addBypass 22 = .ok (.aload_n 0, 1) := by decide +kernel
theorem dX2_addBypass_23 : decode cX2_addBypass 23 = .ok (.getfield 30, 3) := by decide +kernel
theorem dX2_addBypass_26 : decode cX2_addBypass 26 = .ok (.iload_n 1, 1) := by decide +kernel
theorem dX2_addBypass_27 : decode cX2_addBypass 27 = .ok (.bipush 16, 2) := by decide +kernel
theorem dX2_addBypass_29 : decode cX2_addBypass 29 = .ok (.imul, 1) := by decide +kernel
theorem dX2_addBypass_30 : decode cX2_addBypass 30 = .ok (.iload 4, 2) := by decide +kernel
theorem dX2_addBypass_32 : decode cX2_addBypass 32 = .ok (.iadd, 1) := by decide +kernel
theorem dX2_addBypass_33 : decode cX2_addBypass 33 = .ok (.dup2, 1) := by decide +kernel
theorem dX2_addBypass_34 : decode cX2_addBypass 34 = .ok (.laload, 1) := by decide +kernel
theorem dX2_addBypass_35 : decode cX2_addBypass 35 = .ok (.iload 4, 2) := by decide +kernel
theorem dX2_addBypass_37 : decode cX2_addBypass 37 = .ok (.iload_n 2, 1) := by decide +kernel
theorem dX2_addBypass_38 : decode cX2_addBypass 38 = .ok (.iload_n 3, 1) := by decide +kernel
theorem dX2_addBypass_39 : decode cX2_addBypass 39 = .ok (.invokestatic 45, 3) := by decide +kernel
theorem dX2_addBypass_42 : decode cX2_addBypass 42 = .ok (.lor, 1) := by decide +kernel
theorem dX2_addBypass_43 : decode cX2_addBypass 43 = .ok (.lastore, 1) := by decide +kernel
theorem dX2_addBypass_44 : decode cX2_addBypass 44 = .ok (.iinc 4 1, 3) := by decide +kernel
theorem dX2_addBypass_47 : decode cX2_addBypass 47 = .ok (.goto (-32), 3) := by decide +kernel
theorem dX2_addBypass_50 : decode cX2_addBypass 50 = .ok (.aload_n 0, 1) := by decide +kernel
theorem dX2_addBypass_51 : decode cX2_addBypass 51 = .ok (.dup, 1) := by decide +kernel
theorem dX2_addBypass_52 : decode cX2_addBypass 52 = .ok (.getfield 34, 3) := by decide +kernel
theorem dX2_addBypass_55 : decode cX2_addBypass 55 = .ok (.iconst 1, 1) := by decide +kernel
theorem dX2_addBypass_56 : decode cX2_addBypass 56 = .ok (.iadd, 1) := by decide +kernel
theorem dX2_addBypass_57 : decode cX2_addBypass 57 = .ok (.putfield 34, 3) := by decide +kernel
theorem dX2_addBypass_60 : decode cX2_addBypass 60 = .ok (.aload_n 0, 1) := by decide +kernel
theorem dX2_addBypass_61 : decode cX2_addBypass 61 = .ok (.getfield 34, 3) := by decide +kernel
theorem dX2_addBypass_64 : decode cX2_addBypass 64 = .ok (.ireturn, 1) := by decide +kernel
theorem dX2_bypassedDays_0 : decode cX2_bypassedDays 0 = .ok (.iconst 0, 1) := by decide +kernel
theorem dX2_bypassedDays_1 : decode cX2_bypassedDays 1 = .ok (.istore 4, 2) := by decide +kernel
theorem dX2_bypassedDays_3 : decode cX2_bypassedDays 3 = .ok (.iconst 0, 1) := by decide +kernel
theorem dX2_bypassedDays_4 : decode cX2_bypassedDays 4 = .ok (.istore 5, 2) := by decide +kernel
theorem dX2_bypassedDays_6 : decode cX2_bypassedDays 6 = .ok (.iload 5, 2) := by decide +kernel
theorem dX2_bypassedDays_8 : decode cX2_bypassedDays 8 = .ok (.bipush 16, 2) := by decide +kernel
theorem dX2_bypassedDays_10 : decode cX2_bypassedDays 10 = .ok (.if_icmp .ge 37, 3) := by decide +kernel
theorem dX2_bypassedDays_13 : decode cX2_bypassedDays 13 = .ok (.iload 4, 2) := by decide +kernel
theorem dX2_bypassedDays_15 : decode cX2_bypassedDays 15 = .ok (.aload_n 0, 1) := by decide +kernel
theorem dX2_bypassedDays_16 : decode cX2_bypassedDays 16 = .ok (.getfield 30, 3) := by decide +kernel
theorem dX2_bypassedDays_19 : decode cX2_bypassedDays 19 = .ok (.iload_n 1, 1) := by decide +kernel
theorem dX2_bypassedDays_20 : decode cX2_bypassedDays 20 = .ok (.bipush 16, 2) := by decide +kernel
theorem dX2_bypassedDays_22 : decode cX2_bypassedDays 22 = .ok (.imul, 1) := by decide +kernel
theorem dX2_bypassedDays_23 : decode cX2_bypassedDays 23 = .ok (.iload 5, 2) := by decide +kernel
theorem dX2_bypassedDays_25 : decode cX2_bypassedDays 25 = .ok (.iadd, 1) := by decide +kernel
theorem dX2_bypassedDays_26 : decode cX2_bypassedDays 26 = .ok (.laload, 1) := by decide +kernel
theorem dX2_bypassedDays_27 : decode cX2_bypassedDays 27 = .ok (.iload 5, 2) := by decide +kernel
theorem dX2_bypassedDays_29 : decode cX2_bypassedDays 29 = .ok (.iload_n 2, 1) := by decide +kernel
theorem dX2_bypassedDays_30 : decode cX2_bypassedDays 30 = .ok (.iload_n 3, 1) := by decide +kernel
theorem dX2_bypassedDays_31 : decode cX2_bypassedDays 31 = .ok (.invokestatic 45, 3) := by decide +kernel
theorem dX2_bypassedDays_34 : decode cX2_bypassedDays 34 = .ok (.land, 1) := by decide +kernel
theorem dX2_bypassedDays_35 : decode cX2_bypassedDays 35 = .ok (.invokestatic 49, 3) := by decide +kernel
theorem dX2_bypassedDays_38 : decode cX2_bypassedDays 38 = .ok (.iadd, 1) := by decide +kernel
theorem dX2_bypassedDays_39 : decode cX2_bypassedDays 39 = .ok (.istore 4, 2) := by decide +kernel
theorem dX2_bypassedDays_41 : decode cX2_bypassedDays 41 = .ok (.iinc 5 1, 3) := by decide +kernel
theorem dX2_bypassedDays_44 : decode cX2_bypassedDays 44 = .ok (.goto (-38), 3) := by decide +kernel
theorem dX2_bypassedDays_47 : decode cX2_bypassedDays 47 = .ok (.iload 4, 2) := by decide +kernel
theorem dX2_bypassedDays_49 : decode cX2_bypassedDays 49 = .ok (.ireturn, 1) := by decide +kernel
theorem dX2_changeCost_0 : decode cX2_changeCost 0 = .ok (.aload_n 0, 1) := by decide +kernel
theorem dX2_changeCost_1 : decode cX2_changeCost 1 = .ok (.getfield 21, 3) := by decide +kernel
theorem dX2_changeCost_4 : decode cX2_changeCost 4 = .ok (.iload_n 1, 1) := by decide +kernel
theorem dX2_changeCost_5 : decode cX2_changeCost 5 = .ok (.iaload, 1) := by decide +kernel
theorem dX2_changeCost_6 : decode cX2_changeCost 6 = .ok (.istore_n 3, 1) := by decide +kernel
theorem dX2_changeCost_7 : decode cX2_changeCost 7 = .ok (.aload_n 0, 1) := by decide +kernel
theorem dX2_changeCost_8 : decode cX2_changeCost 8 = .ok (.getfield 21, 3) := by decide +kernel
theorem dX2_changeCost_11 : decode cX2_changeCost 11 = .ok (.iload_n 1, 1) := by decide +kernel
theorem dX2_changeCost_12 : decode cX2_changeCost 12 = .ok (.iload_n 2, 1) := by decide +kernel
theorem dX2_changeCost_13 : decode cX2_changeCost 13 = .ok (.iastore, 1) := by decide +kernel
theorem dX2_changeCost_14 : decode cX2_changeCost 14 = .ok (.iload_n 3, 1) := by decide +kernel
theorem dX2_changeCost_15 : decode cX2_changeCost 15 = .ok (.ireturn, 1) := by decide +kernel
theorem dX2_costOf_0 : decode cX2_costOf 0 = .ok (.aload_n 0, 1) := by decide +kernel
theorem dX2_costOf_1 : decode cX2_costOf 1 = .ok (.getfield 21, 3) := by decide +kernel
theorem dX2_costOf_4 : decode cX2_costOf 4 = .ok (.iload_n 1, 1) := by decide +kernel
theorem dX2_costOf_5 : decode cX2_costOf 5 = .ok (.iaload, 1) := by decide +kernel
theorem dX2_costOf_6 : decode cX2_costOf 6 = .ok (.ireturn, 1) := by decide +kernel
theorem dX2_shareForNothing_0 : decode cX2_shareForNothing 0 = .ok (.aload_n 0, 1) := by decide +kernel
theorem dX2_shareForNothing_1 : decode cX2_shareForNothing 1 = .ok (.getfield 18, 3) := by decide +kernel
theorem dX2_shareForNothing_4 : decode cX2_shareForNothing 4 = .ok (.iload_n 1, 1) := by decide +kernel
theorem dX2_shareForNothing_5 : decode cX2_shareForNothing 5 = .ok (.iaload, 1) := by decide +kernel
theorem dX2_shareForNothing_6 : decode cX2_shareForNothing 6 = .ok (.ireturn, 1) := by decide +kernel
theorem dX2_shareOn_0 : decode cX2_shareOn 0 = .ok (.aload_n 0, 1) := by decide +kernel
theorem dX2_shareOn_1 : decode cX2_shareOn 1 = .ok (.iload_n 1, 1) := by decide +kernel
theorem dX2_shareOn_2 : decode cX2_shareOn 2 = .ok (.iload_n 2, 1) := by decide +kernel
theorem dX2_shareOn_3 : decode cX2_shareOn 3 = .ok (.invokevirtual 41, 3) := by decide +kernel
theorem dX2_shareOn_6 : decode cX2_shareOn 6 = .ok (.istore_n 3, 1) := by decide +kernel
theorem dX2_shareOn_7 : decode cX2_shareOn 7 = .ok (.iload_n 3, 1) := by decide +kernel
theorem dX2_shareOn_8 : decode cX2_shareOn 8 = .ok (.ifCond .ne 7, 3) := by decide +kernel
theorem dX2_shareOn_11 : decode cX2_shareOn 11 = .ok (.iconst 0, 1) := by decide +kernel
theorem dX2_shareOn_12 : decode cX2_shareOn 12 = .ok (.goto 16, 3) := by decide +kernel
theorem dX2_shareOn_15 : decode cX2_shareOn 15 = .ok (.aload_n 0, 1) := by decide +kernel
theorem dX2_shareOn_16 : decode cX2_shareOn 16 = .ok (.getfield 27, 3) := by decide +kernel
theorem dX2_shareOn_19 : decode cX2_shareOn 19 = .ok (.iload_n 1, 1) := by decide +kernel
theorem dX2_shareOn_20 : decode cX2_shareOn 20 = .ok (.bipush 12, 2) := by decide +kernel
theorem dX2_shareOn_22 : decode cX2_shareOn 22 = .ok (.imul, 1) := by decide +kernel
theorem dX2_shareOn_23 : decode cX2_shareOn 23 = .ok (.iload_n 3, 1) := by decide +kernel
theorem dX2_shareOn_24 : decode cX2_shareOn 24 = .ok (.iadd, 1) := by decide +kernel
theorem dX2_shareOn_25 : decode cX2_shareOn 25 = .ok (.iconst 1, 1) := by decide +kernel
theorem dX2_shareOn_26 : decode cX2_shareOn 26 = .ok (.isub, 1) := by decide +kernel
theorem dX2_shareOn_27 : decode cX2_shareOn 27 = .ok (.iaload, 1) := by decide +kernel
theorem dX2_shareOn_28 : decode cX2_shareOn 28 = .ok (.istore 4, 2) := by decide +kernel
theorem dX2_shareOn_30 : decode cX2_shareOn 30 = .ok (.aload_n 0, 1) := by decide +kernel
theorem dX2_shareOn_31 : decode cX2_shareOn 31 = .ok (.iload_n 1, 1) := by decide +kernel
theorem dX2_shareOn_32 : decode cX2_shareOn 32 = .ok (.iload_n 2, 1) := by decide +kernel
theorem dX2_shareOn_33 : decode cX2_shareOn 33 = .ok (.iload_n 2, 1) := by decide +kernel
theorem dX2_shareOn_34 : decode cX2_shareOn 34 = .ok (.iload 4, 2) := by decide +kernel
theorem dX2_shareOn_36 : decode cX2_shareOn 36 = .ok (.isub, 1) := by decide +kernel
theorem dX2_shareOn_37 : decode cX2_shareOn 37 = .ok (.invokevirtual 55, 3) := by decide +kernel
theorem dX2_shareOn_40 : decode cX2_shareOn 40 = .ok (.ireturn, 1) := by decide +kernel
theorem dX2_shareAfter_0 : decode cX2_shareAfter 0 = .ok (.aload_n 0, 1) := by decide +kernel
theorem dX2_shareAfter_1 : decode cX2_shareAfter 1 = .ok (.getfield 30, 3) := by decide +kernel
theorem dX2_shareAfter_4 : decode cX2_shareAfter 4 = .ok (.iload_n 1, 1) := by decide +kernel
theorem dX2_shareAfter_5 : decode cX2_shareAfter 5 = .ok (.bipush 16, 2) := by decide +kernel
theorem dX2_shareAfter_7 : decode cX2_shareAfter 7 = .ok (.imul, 1) := by decide +kernel
theorem dX2_shareAfter_8 : decode cX2_shareAfter 8 = .ok (.iload_n 2, 1) := by decide +kernel
theorem dX2_shareAfter_9 : decode cX2_shareAfter 9 = .ok (.bipush 6, 2) := by decide +kernel
theorem dX2_shareAfter_11 : decode cX2_shareAfter 11 = .ok (.ishr, 1) := by decide +kernel
theorem dX2_shareAfter_12 : decode cX2_shareAfter 12 = .ok (.iadd, 1) := by decide +kernel
theorem dX2_shareAfter_13 : decode cX2_shareAfter 13 = .ok (.laload, 1) := by decide +kernel
theorem dX2_shareAfter_14 : decode cX2_shareAfter 14 = .ok (.iload_n 2, 1) := by decide +kernel
theorem dX2_shareAfter_15 : decode cX2_shareAfter 15 = .ok (.bipush 63, 2) := by decide +kernel
theorem dX2_shareAfter_17 : decode cX2_shareAfter 17 = .ok (.iand, 1) := by decide +kernel
theorem dX2_shareAfter_18 : decode cX2_shareAfter 18 = .ok (.lushr, 1) := by decide +kernel
theorem dX2_shareAfter_19 : decode cX2_shareAfter 19 = .ok (.lconst 1, 1) := by decide +kernel
theorem dX2_shareAfter_20 : decode cX2_shareAfter 20 = .ok (.land, 1) := by decide +kernel
theorem dX2_shareAfter_21 : decode cX2_shareAfter 21 = .ok (.lconst 0, 1) := by decide +kernel
theorem dX2_shareAfter_22 : decode cX2_shareAfter 22 = .ok (.lcmp, 1) := by decide +kernel
theorem dX2_shareAfter_23 : decode cX2_shareAfter 23 = .ok (.ifCond .eq 6, 3) := by decide +kernel
theorem dX2_shareAfter_26 : decode cX2_shareAfter 26 = .ok (.bipush 64, 2) := by decide +kernel
theorem dX2_shareAfter_28 : decode cX2_shareAfter 28 = .ok (.ireturn, 1) := by decide +kernel
theorem dX2_shareAfter_29 : decode cX2_shareAfter 29 = .ok (.bipush 64, 2) := by decide +kernel
theorem dX2_shareAfter_31 : decode cX2_shareAfter 31 = .ok (.aload_n 0, 1) := by decide +kernel
theorem dX2_shareAfter_32 : decode cX2_shareAfter 32 = .ok (.getfield 9, 3) := by decide +kernel
theorem dX2_shareAfter_35 : decode cX2_shareAfter 35 = .ok (.iload_n 1, 1) := by decide +kernel
theorem dX2_shareAfter_36 : decode cX2_shareAfter 36 = .ok (.iaload, 1) := by decide +kernel
theorem dX2_shareAfter_37 : decode cX2_shareAfter 37 = .ok (.aload_n 0, 1) := by decide +kernel
theorem dX2_shareAfter_38 : decode cX2_shareAfter 38 = .ok (.getfield 15, 3) := by decide +kernel
theorem dX2_shareAfter_41 : decode cX2_shareAfter 41 = .ok (.iload_n 1, 1) := by decide +kernel
theorem dX2_shareAfter_42 : decode cX2_shareAfter 42 = .ok (.iaload, 1) := by decide +kernel
theorem dX2_shareAfter_43 : decode cX2_shareAfter 43 = .ok (.iload_n 3, 1) := by decide +kernel
theorem dX2_shareAfter_44 : decode cX2_shareAfter 44 = .ok (.imul, 1) := by decide +kernel
theorem dX2_shareAfter_45 : decode cX2_shareAfter 45 = .ok (.iadd, 1) := by decide +kernel
theorem dX2_shareAfter_46 : decode cX2_shareAfter 46 = .ok (.invokestatic 59, 3) := by decide +kernel
theorem dX2_shareAfter_49 : decode cX2_shareAfter 49 = .ok (.ireturn, 1) := by decide +kernel
theorem dX2_testsUpTo_0 : decode cX2_testsUpTo 0 = .ok (.iconst 0, 1) := by decide +kernel
theorem dX2_testsUpTo_1 : decode cX2_testsUpTo 1 = .ok (.istore_n 3, 1) := by decide +kernel
theorem dX2_testsUpTo_2 : decode cX2_testsUpTo 2 = .ok (.iconst 0, 1) := by decide +kernel
theorem dX2_testsUpTo_3 : decode cX2_testsUpTo 3 = .ok (.istore 4, 2) := by decide +kernel
theorem dX2_testsUpTo_5 : decode cX2_testsUpTo 5 = .ok (.iload 4, 2) := by decide +kernel
theorem dX2_testsUpTo_7 : decode cX2_testsUpTo 7 = .ok (.aload_n 0, 1) := by decide +kernel
theorem dX2_testsUpTo_8 : decode cX2_testsUpTo 8 = .ok (.getfield 24, 3) := by decide +kernel
theorem dX2_testsUpTo_11 : decode cX2_testsUpTo 11 = .ok (.iload_n 1, 1) := by decide +kernel
theorem dX2_testsUpTo_12 : decode cX2_testsUpTo 12 = .ok (.iaload, 1) := by decide +kernel
theorem dX2_testsUpTo_13 : decode cX2_testsUpTo 13 = .ok (.if_icmp .ge 28, 3) := by decide +kernel
theorem dX2_testsUpTo_16 : decode cX2_testsUpTo 16 = .ok (.aload_n 0, 1) := by decide +kernel
theorem dX2_testsUpTo_17 : decode cX2_testsUpTo 17 = .ok (.getfield 27, 3) := by decide +kernel
theorem dX2_testsUpTo_20 : decode cX2_testsUpTo 20 = .ok (.iload_n 1, 1) := by decide +kernel
theorem dX2_testsUpTo_21 : decode cX2_testsUpTo 21 = .ok (.bipush 12, 2) := by decide +kernel
theorem dX2_testsUpTo_23 : decode cX2_testsUpTo 23 = .ok (.imul, 1) := by decide +kernel
theorem dX2_testsUpTo_24 : decode cX2_testsUpTo 24 = .ok (.iload 4, 2) := by decide +kernel
theorem dX2_testsUpTo_26 : decode cX2_testsUpTo 26 = .ok (.iadd, 1) := by decide +kernel
theorem dX2_testsUpTo_27 : decode cX2_testsUpTo 27 = .ok (.iaload, 1) := by decide +kernel
theorem dX2_testsUpTo_28 : decode cX2_testsUpTo 28 = .ok (.iload_n 2, 1) := by decide +kernel
theorem dX2_testsUpTo_29 : decode cX2_testsUpTo 29 = .ok (.if_icmp .gt 6, 3) := by decide +kernel
theorem dX2_testsUpTo_32 : decode cX2_testsUpTo 32 = .ok (.iinc 3 1, 3) := by decide +kernel
theorem dX2_testsUpTo_35 : decode cX2_testsUpTo 35 = .ok (.iinc 4 1, 3) := by decide +kernel
theorem dX2_testsUpTo_38 : decode cX2_testsUpTo 38 = .ok (.goto (-33), 3) := by decide +kernel
theorem dX2_testsUpTo_41 : decode cX2_testsUpTo 41 = .ok (.iload_n 3, 1) := by decide +kernel
theorem dX2_testsUpTo_42 : decode cX2_testsUpTo 42 = .ok (.ireturn, 1) := by decide +kernel
theorem dX2_daysInWord_0 : decode cX2_daysInWord 0 = .ok (.iload_n 1, 1) := by decide +kernel
theorem dX2_daysInWord_1 : decode cX2_daysInWord 1 = .ok (.iload_n 0, 1) := by decide +kernel
theorem dX2_daysInWord_2 : decode cX2_daysInWord 2 = .ok (.bipush 64, 2) := by decide +kernel
theorem dX2_daysInWord_4 : decode cX2_daysInWord 4 = .ok (.imul, 1) := by decide +kernel
theorem dX2_daysInWord_5 : decode cX2_daysInWord 5 = .ok (.isub, 1) := by decide +kernel
theorem dX2_daysInWord_6 : decode cX2_daysInWord 6 = .ok (.iconst 0, 1) := by decide +kernel
theorem dX2_daysInWord_7 : decode cX2_daysInWord 7 = .ok (.invokestatic 64, 3) := by decide +kernel
theorem dX2_daysInWord_10 : decode cX2_daysInWord 10 = .ok (.istore_n 3, 1) := by decide +kernel
theorem dX2_daysInWord_11 : decode cX2_daysInWord 11 = .ok (.iload_n 2, 1) := by decide +kernel
theorem dX2_daysInWord_12 : decode cX2_daysInWord 12 = .ok (.iload_n 0, 1) := by decide +kernel
theorem dX2_daysInWord_13 : decode cX2_daysInWord 13 = .ok (.bipush 64, 2) := by decide +kernel
theorem dX2_daysInWord_15 : decode cX2_daysInWord 15 = .ok (.imul, 1) := by decide +kernel
theorem dX2_daysInWord_16 : decode cX2_daysInWord 16 = .ok (.isub, 1) := by decide +kernel
theorem dX2_daysInWord_17 : decode cX2_daysInWord 17 = .ok (.bipush 63, 2) := by decide +kernel
theorem dX2_daysInWord_19 : decode cX2_daysInWord 19 = .ok (.invokestatic 59, 3) := by decide +kernel
theorem dX2_daysInWord_22 : decode cX2_daysInWord 22 = .ok (.istore 4, 2) := by decide +kernel
theorem dX2_daysInWord_24 : decode cX2_daysInWord 24 = .ok (.iload_n 3, 1) := by decide +kernel
theorem dX2_daysInWord_25 : decode cX2_daysInWord 25 = .ok (.iload 4, 2) := by decide +kernel
theorem dX2_daysInWord_27 : decode cX2_daysInWord 27 = .ok (.if_icmp .le 7, 3) := by decide +kernel
theorem dX2_daysInWord_30 : decode cX2_daysInWord 30 = .ok (.lconst 0, 1) := by decide +kernel
theorem dX2_daysInWord_31 : decode cX2_daysInWord 31 = .ok (.goto 18, 3) := by decide +kernel
theorem dX2_daysInWord_34 : decode cX2_daysInWord 34 = .ok (.ldc2_w 67, 3) := by decide +kernel
theorem dX2_daysInWord_37 : decode cX2_daysInWord 37 = .ok (.iload_n 3, 1) := by decide +kernel
theorem dX2_daysInWord_38 : decode cX2_daysInWord 38 = .ok (.lshl, 1) := by decide +kernel
theorem dX2_daysInWord_39 : decode cX2_daysInWord 39 = .ok (.ldc2_w 67, 3) := by decide +kernel
theorem dX2_daysInWord_42 : decode cX2_daysInWord 42 = .ok (.bipush 63, 2) := by decide +kernel
theorem dX2_daysInWord_44 : decode cX2_daysInWord 44 = .ok (.iload 4, 2) := by decide +kernel
theorem dX2_daysInWord_46 : decode cX2_daysInWord 46 = .ok (.isub, 1) := by decide +kernel
theorem dX2_daysInWord_47 : decode cX2_daysInWord 47 = .ok (.lushr, 1) := by decide +kernel
theorem dX2_daysInWord_48 : decode cX2_daysInWord 48 = .ok (.land, 1) := by decide +kernel
theorem dX2_daysInWord_49 : decode cX2_daysInWord 49 = .ok (.lreturn, 1) := by decide +kernel
theorem dX3_init_0 : decode cX3_init 0 = .ok (.aload_n 0, 1) := by decide +kernel
theorem dX3_init_1 : decode cX3_init 1 = .ok (.invokespecial 3, 3) := by decide +kernel
theorem dX3_init_4 : decode cX3_init 4 = .ok (.aload_n 0, 1) := by decide +kernel
theorem dX3_init_5 : decode cX3_init 5 = .ok (.iconst 3, 1) := by decide +kernel
theorem dX3_init_6 : decode cX3_init 6 = .ok (.newarray .int, 2) := by decide +kernel
theorem dX3_init_8 : decode cX3_init 8 = .ok (.putfield 9, 3) := by decide +kernel
theorem dX3_init_11 : decode cX3_init 11 = .ok (.aload_n 0, 1) := by decide +kernel
theorem dX3_init_12 : decode cX3_init 12 = .ok (.iconst 3, 1) := by decide +kernel
theorem dX3_init_13 : decode cX3_init 13 = .ok (.newarray .int, 2) := by decide +kernel
theorem dX3_init_15 : decode cX3_init 15 = .ok (.putfield 15, 3) := by decide +kernel
theorem dX3_init_18 : decode cX3_init 18 = .ok (.aload_n 0, 1) := by decide +kernel
theorem dX3_init_19 : decode cX3_init 19 = .ok (.iconst 0, 1) := by decide +kernel
theorem dX3_init_20 : decode cX3_init 20 = .ok (.putfield 18, 3) := by decide +kernel
theorem dX3_init_23 : decode cX3_init 23 = .ok (.aload_n 0, 1) := by decide +kernel
theorem dX3_init_24 : decode cX3_init 24 = .ok (.iconst 0, 1) := by decide +kernel
theorem dX3_init_25 : decode cX3_init 25 = .ok (.putfield 22, 3) := by decide +kernel
theorem dX3_init_28 : decode cX3_init 28 = .ok (.aload_n 0, 1) := by decide +kernel
theorem dX3_init_29 : decode cX3_init 29 = .ok (.aload_n 1, 1) := by decide +kernel
theorem dX3_init_30 : decode cX3_init 30 = .ok (.putfield 25, 3) := by decide +kernel
theorem dX3_init_33 : decode cX3_init 33 = .ok (.aload_n 0, 1) := by decide +kernel
theorem dX3_init_34 : decode cX3_init 34 = .ok (.aload_n 2, 1) := by decide +kernel
theorem dX3_init_35 : decode cX3_init 35 = .ok (.putfield 29, 3) := by decide +kernel
theorem dX3_init_38 : decode cX3_init 38 = .ok (.return_, 1) := by decide +kernel
theorem dX3_setIntervals_0 : decode cX3_setIntervals 0 = .ok (.aload_n 0, 1) := by decide +kernel
theorem dX3_setIntervals_1 : decode cX3_setIntervals 1 = .ok (.getfield 9, 3) := by decide +kernel
theorem dX3_setIntervals_4 : decode cX3_setIntervals 4 = .ok (.iconst 0, 1) := by decide +kernel
theorem dX3_setIntervals_5 : decode cX3_setIntervals 5 = .ok (.iload_n 1, 1) := by decide +kernel
theorem dX3_setIntervals_6 : decode cX3_setIntervals 6 = .ok (.iastore, 1) := by decide +kernel
theorem dX3_setIntervals_7 : decode cX3_setIntervals 7 = .ok (.aload_n 0, 1) := by decide +kernel
theorem dX3_setIntervals_8 : decode cX3_setIntervals 8 = .ok (.getfield 9, 3) := by decide +kernel
theorem dX3_setIntervals_11 : decode cX3_setIntervals 11 = .ok (.iconst 1, 1) := by decide +kernel
theorem dX3_setIntervals_12 : decode cX3_setIntervals 12 = .ok (.iload_n 2, 1) := by decide +kernel
theorem dX3_setIntervals_13 : decode cX3_setIntervals 13 = .ok (.iastore, 1) := by decide +kernel
theorem dX3_setIntervals_14 : decode cX3_setIntervals 14 = .ok (.aload_n 0, 1) := by decide +kernel
theorem dX3_setIntervals_15 : decode cX3_setIntervals 15 = .ok (.getfield 9, 3) := by decide +kernel
theorem dX3_setIntervals_18 : decode cX3_setIntervals 18 = .ok (.iconst 2, 1) := by decide +kernel
theorem dX3_setIntervals_19 : decode cX3_setIntervals 19 = .ok (.iload_n 3, 1) := by decide +kernel
theorem dX3_setIntervals_20 : decode cX3_setIntervals 20 = .ok (.iastore, 1) := by decide +kernel
theorem dX3_setIntervals_21 : decode cX3_setIntervals 21 = .ok (.return_, 1) := by decide +kernel
theorem dX3_cheapestCost_0 : decode cX3_cheapestCost 0 = .ok (.aload_n 0, 1) := by decide +kernel
theorem dX3_cheapestCost_1 : decode cX3_cheapestCost 1 = .ok (.getfield 18, 3) := by decide +kernel
theorem dX3_cheapestCost_4 : decode cX3_cheapestCost 4 = .ok (.ireturn, 1) := by decide +kernel
theorem dX3_cheapestChoices_0 : decode cX3_cheapestChoices 0 = .ok (.aload_n 0, 1) := by decide +kernel
theorem dX3_cheapestChoices_1 : decode cX3_cheapestChoices 1 = .ok (.getfield 22, 3) := by decide +kernel
theorem dX3_cheapestChoices_4 : decode cX3_cheapestChoices 4 = .ok (.ireturn, 1) := by decide +kernel
theorem dX3_findCheapest_0 : decode cX3_findCheapest 0 = .ok (.aload_n 0, 1) := by decide +kernel
theorem dX3_findCheapest_1 : decode cX3_findCheapest 1 = .ok (.getfield 29, 3) := by decide +kernel
theorem dX3_findCheapest_4 : decode cX3_findCheapest 4 = .ok (.iload_n 1, 1) := by decide +kernel
theorem dX3_findCheapest_5 : decode cX3_findCheapest 5 = .ok (.invokevirtual 33, 3) := by decide +kernel
theorem dX3_findCheapest_8 : decode cX3_findCheapest 8 = .ok (.iconst 1, 1) := by decide +kernel
theorem dX3_findCheapest_9 : decode cX3_findCheapest 9 = .ok (.istore 4, 2) := by decide +kernel
theorem dX3_findCheapest_11 : decode cX3_findCheapest 11 = .ok (.iconst 0, 1) := by decide +kernel
theorem dX3_findCheapest_12 : decode cX3_findCheapest 12 = .ok (.istore 5, 2) := by decide +kernel
theorem dX3_findCheapest_14 : decode cX3_findCheapest 14 = .ok (.iload 5, 2) := by decide +kernel
theorem dX3_findCheapest_16 : decode cX3_findCheapest 16 = .ok (.aload_n 0, 1) := by decide +kernel
theorem dX3_findCheapest_17 : decode cX3_findCheapest 17 = .ok (.getfield 29, 3) := by decide +kernel
theorem dX3_findCheapest_20 : decode cX3_findCheapest 20 = .ok (.invokevirtual 39, 3) := by decide +kernel
theorem dX3_findCheapest_23 : decode cX3_findCheapest 23 = .ok (.if_icmp .ge 15, 3) := by decide +kernel
theorem dX3_findCheapest_26 : decode cX3_findCheapest 26 = .ok (.iload 4, 2) := by decide +kernel
theorem dX3_findCheapest_28 : decode cX3_findCheapest 28 = .ok (.iconst 3, 1) := by decide +kernel
theorem dX3_findCheapest_29 : decode cX3_findCheapest 29 = .ok (.imul, 1) := by decide +kernel
theorem dX3_findCheapest_30 : decode cX3_findCheapest 30 = .ok (.istore 4, 2) := by decide +kernel
theorem dX3_findCheapest_32 : decode cX3_findCheapest 32 = .ok (.iinc 5 1, 3) := by decide +kernel
theorem dX3_findCheapest_35 : decode cX3_findCheapest 35 = .ok (.goto (-21), 3) := by decide +kernel
theorem dX3_findCheapest_38 : decode cX3_findCheapest 38 = .ok (.iconst 0, 1) := by decide +kernel
theorem dX3_findCheapest_39 : decode cX3_findCheapest 39 = .ok (.istore 5, 2) := by decide +kernel
theorem dX3_findCheapest_41 : decode cX3_findCheapest 41 = .ok (.iconst 0, 1) := by decide +kernel
theorem dX3_findCheapest_42 : decode cX3_findCheapest 42 = .ok (.istore 6, 2) := by decide +kernel
theorem dX3_findCheapest_44 : decode cX3_findCheapest 44 = .ok (.iload 6, 2) := by decide +kernel
theorem dX3_findCheapest_46 : decode cX3_findCheapest 46 = .ok (.iload 4, 2) := by decide +kernel
theorem dX3_findCheapest_48 : decode cX3_findCheapest 48 = .ok (.if_icmp .ge 60, 3) := by decide +kernel
theorem dX3_findCheapest_51 : decode cX3_findCheapest 51 = .ok (.aload_n 0, 1) := by decide +kernel
theorem dX3_findCheapest_52 : decode cX3_findCheapest 52 = .ok (.iload 6, 2) := by decide +kernel
theorem dX3_findCheapest_54 : decode cX3_findCheapest 54 = .ok (.invokevirtual 43, 3) := by decide +kernel
theorem dX3_findCheapest_57 : decode cX3_findCheapest 57 = .ok (.aload_n 0, 1) := by decide +kernel
theorem dX3_findCheapest_58 : decode cX3_findCheapest 58 = .ok (.invokevirtual 46, 3) := by decide +kernel
theorem dX3_findCheapest_61 : decode cX3_findCheapest 61 = .ok (.istore 7, 2) := by decide +kernel
theorem dX3_findCheapest_63 : decode cX3_findCheapest 63 = .ok (.iload 5, 2) := by decide +kernel
theorem dX3_findCheapest_65 : decode cX3_findCheapest 65 = .ok (.ifCond .eq 12, 3) := by decide +kernel
theorem dX3_findCheapest_68 : decode cX3_findCheapest 68 = .ok (.iload 7, 2) := by decide +kernel
theorem dX3_findCheapest_70 : decode cX3_findCheapest 70 = .ok (.aload_n 0, 1) := by decide +kernel
theorem dX3_findCheapest_71 : decode cX3_findCheapest 71 = .ok (.getfield 18, 3) := by decide +kernel
theorem dX3_findCheapest_74 : decode cX3_findCheapest 74 = .ok (.if_icmp .ge 28, 3) := by decide +kernel
theorem dX3_findCheapest_77 : decode cX3_findCheapest 77 = .ok (.aload_n 0, 1) := by decide +kernel
theorem dX3_findCheapest_78 : decode cX3_findCheapest 78 = .ok (.lload_n 2, 1) := by decide +kernel
theorem dX3_findCheapest_79 : decode cX3_findCheapest 79 = .ok (.invokevirtual 49, 3) := by decide +kernel
theorem dX3_findCheapest_82 : decode cX3_findCheapest 82 = .ok (.ifCond .eq 20, 3) := by decide +kernel
theorem dX3_findCheapest_85 : decode cX3_findCheapest 85 = .ok (.iconst 1, 1) := by decide +kernel
theorem dX3_findCheapest_86 : decode cX3_findCheapest 86 = .ok (.istore 5, 2) := by decide +kernel
theorem dX3_findCheapest_88 : decode cX3_findCheapest 88 = .ok (.aload_n 0, 1) := by decide +kernel
theorem dX3_findCheapest_89 : decode cX3_findCheapest 89 = .ok (.iload 7, 2) := by decide +kernel
theorem dX3_findCheapest_91 : decode cX3_findCheapest 91 = .ok (.putfield 18, 3) := by decide +kernel
theorem dX3_findCheapest_94 : decode cX3_findCheapest 94 = .ok (.aload_n 0, 1) := by decide +kernel
theorem dX3_findCheapest_95 : decode cX3_findCheapest 95 = .ok (.aload_n 0, 1) := by decide +kernel
theorem dX3_findCheapest_96 : decode cX3_findCheapest 96 = .ok (.invokevirtual 53, 3) := by decide +kernel
theorem dX3_findCheapest_99 : decode cX3_findCheapest 99 = .ok (.putfield 22, 3) := by decide +kernel
theorem dX3_findCheapest_102 : decode cX3_findCheapest 102 = .ok (.iinc 6 1, 3) := by decide +kernel
theorem dX3_findCheapest_105 : decode cX3_findCheapest 105 = .ok (.goto (-61), 3) := by decide +kernel
theorem dX3_findCheapest_108 : decode cX3_findCheapest 108 = .ok (.iload 5, 2) := by decide +kernel
theorem dX3_findCheapest_110 : decode cX3_findCheapest 110 = .ok (.ireturn, 1) := by decide +kernel
theorem dX3_takeChoices_0 : decode cX3_takeChoices 0 = .ok (.iload_n 1, 1) := by decide +kernel
theorem dX3_takeChoices_1 : decode cX3_takeChoices 1 = .ok (.istore_n 2, 1) := by decide +kernel
theorem dX3_takeChoices_2 : decode cX3_takeChoices 2 = .ok (.aload_n 0, 1) := by decide +kernel
theorem dX3_takeChoices_3 : decode cX3_takeChoices 3 = .ok (.getfield 29, 3) := by decide +kernel
theorem dX3_takeChoices_6 : decode cX3_takeChoices 6 = .ok (.invokevirtual 39, 3) := by decide +kernel
theorem dX3_takeChoices_9 : decode cX3_takeChoices 9 = .ok (.iconst 1, 1) := by decide +kernel
theorem dX3_takeChoices_10 : decode cX3_takeChoices 10 = .ok (.isub, 1) := by decide +kernel
theorem dX3_takeChoices_11 : decode cX3_takeChoices 11 = .ok (.istore_n 3, 1) := by decide +kernel
theorem dX3_takeChoices_12 : decode cX3_takeChoices 12 = .ok (.iload_n 3, 1) := by decide +kernel
theorem dX3_takeChoices_13 : decode cX3_takeChoices 13 = .ok (.ifCond .lt 22, 3) := by decide +kernel
theorem dX3_takeChoices_16 : decode cX3_takeChoices 16 = .ok (.aload_n 0, 1) := by decide +kernel
theorem dX3_takeChoices_17 : decode cX3_takeChoices 17 = .ok (.getfield 15, 3) := by decide +kernel
theorem dX3_takeChoices_20 : decode cX3_takeChoices 20 = .ok (.iload_n 3, 1) := by decide +kernel
theorem dX3_takeChoices_21 : decode cX3_takeChoices 21 = .ok (.iload_n 2, 1) := by decide +kernel
theorem dX3_takeChoices_22 : decode cX3_takeChoices 22 = .ok (.iconst 3, 1) := by decide +kernel
theorem dX3_takeChoices_23 : decode cX3_takeChoices 23 = .ok (.irem, 1) := by decide +kernel
theorem dX3_takeChoices_24 : decode cX3_takeChoices 24 = .ok (.iastore, 1) := by decide +kernel
theorem dX3_takeChoices_25 : decode cX3_takeChoices 25 = .ok (.iload_n 2, 1) := by decide +kernel
theorem dX3_takeChoices_26 : decode cX3_takeChoices 26 = .ok (.iconst 3, 1) := by decide +kernel
theorem dX3_takeChoices_27 : decode cX3_takeChoices 27 = .ok (.idiv, 1) := by decide +kernel
theorem dX3_takeChoices_28 : decode cX3_takeChoices 28 = .ok (.istore_n 2, 1) := by decide +kernel
theorem dX3_takeChoices_29 : decode cX3_takeChoices 29 = .ok (.iinc 3 (-1), 3) := by decide +kernel
theorem dX3_takeChoices_32 : decode cX3_takeChoices 32 = .ok (.goto (-20), 3) := by decide +kernel
theorem dX3_takeChoices_35 : decode cX3_takeChoices 35 = .ok (.return_, 1) := by decide +kernel
theorem dX3_toldChoices_0 : decode cX3_toldChoices 0 = .ok (.iconst 0, 1) := by decide +kernel
theorem dX3_toldChoices_1 : decode cX3_toldChoices 1 = .ok (.istore_n 1, 1) := by decide +kernel
theorem dX3_toldChoices_2 : decode cX3_toldChoices 2 = .ok (.aload_n 0, 1) := by decide +kernel
theorem dX3_toldChoices_3 : decode cX3_toldChoices 3 = .ok (.getfield 29, 3) := by decide +kernel
theorem dX3_toldChoices_6 : decode cX3_toldChoices 6 = .ok (.invokevirtual 39, 3) := by decide +kernel
theorem dX3_toldChoices_9 : decode cX3_toldChoices 9 = .ok (.iconst 1, 1) := by decide +kernel
theorem dX3_toldChoices_10 : decode cX3_toldChoices 10 = .ok (.isub, 1) := by decide +kernel
theorem dX3_toldChoices_11 : decode cX3_toldChoices 11 = .ok (.istore_n 2, 1) := by decide +kernel
theorem dX3_toldChoices_12 : decode cX3_toldChoices 12 = .ok (.iload_n 2, 1) := by decide +kernel
theorem dX3_toldChoices_13 : decode cX3_toldChoices 13 = .ok (.ifCond .lt 20, 3) := by decide +kernel
theorem dX3_toldChoices_16 : decode cX3_toldChoices 16 = .ok (.iload_n 1, 1) := by decide +kernel
theorem dX3_toldChoices_17 : decode cX3_toldChoices 17 = .ok (.iconst 3, 1) := by decide +kernel
theorem dX3_toldChoices_18 : decode cX3_toldChoices 18 = .ok (.imul, 1) := by decide +kernel
theorem dX3_toldChoices_19 : decode cX3_toldChoices 19 = .ok (.aload_n 0, 1) := by decide +kernel
theorem dX3_toldChoices_20 : decode cX3_toldChoices 20 = .ok (.getfield 15, 3) := by decide +kernel
theorem dX3_toldChoices_23 : decode cX3_toldChoices 23 = .ok (.iload_n 2, 1) := by decide +kernel
theorem dX3_toldChoices_24 : decode cX3_toldChoices 24 = .ok (.iaload, 1) := by decide +kernel
theorem dX3_toldChoices_25 : decode cX3_toldChoices 25 = .ok (.iadd, 1) := by decide +kernel
theorem dX3_toldChoices_26 : decode cX3_toldChoices 26 = .ok (.istore_n 1, 1) := by decide +kernel
theorem dX3_toldChoices_27 : decode cX3_toldChoices 27 = .ok (.iinc 2 (-1), 3) := by decide +kernel
theorem dX3_toldChoices_30 : decode cX3_toldChoices 30 = .ok (.goto (-18), 3) := by decide +kernel
theorem dX3_toldChoices_33 : decode cX3_toldChoices 33 = .ok (.iload_n 1, 1) := by decide +kernel
theorem dX3_toldChoices_34 : decode cX3_toldChoices 34 = .ok (.ireturn, 1) := by decide +kernel
theorem dX3_costOfChoices_0 : decode cX3_costOfChoices 0 = .ok (.iconst 0, 1) := by decide +kernel
theorem dX3_costOfChoices_1 : decode cX3_costOfChoices 1 = .ok (.istore_n 1, 1) := by decide +kernel
theorem dX3_costOfChoices_2 : decode cX3_costOfChoices 2 = .ok (.iconst 0, 1) := by decide +kernel
theorem dX3_costOfChoices_3 : decode cX3_costOfChoices 3 = .ok (.istore_n 2, 1) := by decide +kernel
theorem dX3_costOfChoices_4 : decode cX3_costOfChoices 4 = .ok (.iload_n 2, 1) := by decide +kernel
theorem dX3_costOfChoices_5 : decode cX3_costOfChoices 5 = .ok (.aload_n 0, 1) := by decide +kernel
theorem dX3_costOfChoices_6 : decode cX3_costOfChoices 6 = .ok (.getfield 29, 3) := by decide +kernel
theorem dX3_costOfChoices_9 : decode cX3_costOfChoices 9 = .ok (.invokevirtual 39, 3) := by decide +kernel
theorem dX3_costOfChoices_12 : decode cX3_costOfChoices 12 = .ok (.if_icmp .ge 42, 3) := by decide +kernel
theorem dX3_costOfChoices_15 : decode cX3_costOfChoices 15 = .ok (.iload_n 1, 1) := by decide +kernel
theorem dX3_costOfChoices_16 : decode cX3_costOfChoices 16 = .ok (.aload_n 0, 1) := by decide +kernel
theorem dX3_costOfChoices_17 : decode cX3_costOfChoices 17 = .ok (.getfield 25, 3) := by decide +kernel
theorem dX3_costOfChoices_20 : decode cX3_costOfChoices 20 = .ok (.aload_n 0, 1) := by decide +kernel
theorem dX3_costOfChoices_21 : decode cX3_costOfChoices 21 = .ok (.getfield 29, 3) := by decide +kernel
theorem dX3_costOfChoices_24 : decode cX3_costOfChoices 24 = .ok (.iload_n 2, 1) := by decide +kernel
theorem dX3_costOfChoices_25 : decode cX3_costOfChoices 25 = .ok (.invokevirtual 56, 3) := by decide +kernel
theorem dX3_costOfChoices_28 : decode cX3_costOfChoices 28 = .ok (.invokevirtual 60, 3) := by decide +kernel
theorem dX3_costOfChoices_31 : decode cX3_costOfChoices 31 = .ok (.bipush 100, 2) := by decide +kernel
theorem dX3_costOfChoices_33 : decode cX3_costOfChoices 33 = .ok (.aload_n 0, 1) := by decide +kernel
theorem dX3_costOfChoices_34 : decode cX3_costOfChoices 34 = .ok (.getfield 9, 3) := by decide +kernel
theorem dX3_costOfChoices_37 : decode cX3_costOfChoices 37 = .ok (.aload_n 0, 1) := by decide +kernel
theorem dX3_costOfChoices_38 : decode cX3_costOfChoices 38 = .ok (.getfield 15, 3) := by decide +kernel
theorem dX3_costOfChoices_41 : decode cX3_costOfChoices 41 = .ok (.iload_n 2, 1) := by decide +kernel
theorem dX3_costOfChoices_42 : decode cX3_costOfChoices 42 = .ok (.iaload, 1) := by decide +kernel
theorem dX3_costOfChoices_43 : decode cX3_costOfChoices 43 = .ok (.iaload, 1) := by decide +kernel
theorem dX3_costOfChoices_44 : decode cX3_costOfChoices 44 = .ok (.idiv, 1) := by decide +kernel
theorem dX3_costOfChoices_45 : decode cX3_costOfChoices 45 = .ok (.imul, 1) := by decide +kernel
theorem dX3_costOfChoices_46 : decode cX3_costOfChoices 46 = .ok (.iadd, 1) := by decide +kernel
theorem dX3_costOfChoices_47 : decode cX3_costOfChoices 47 = .ok (.istore_n 1, 1) := by decide +kernel
theorem dX3_costOfChoices_48 : decode cX3_costOfChoices 48 = .ok (.iinc 2 1, 3) := by decide +kernel
theorem dX3_costOfChoices_51 : decode cX3_costOfChoices 51 = .ok (.goto (-47), 3) := by decide +kernel
theorem dX3_costOfChoices_54 : decode cX3_costOfChoices 54 = .ok (.iload_n 1, 1) := by decide +kernel
theorem dX3_costOfChoices_55 : decode cX3_costOfChoices 55 = .ok (.ireturn, 1) := by decide +kernel
theorem dX3_keepsLaw_0 : decode cX3_keepsLaw 0 = .ok (.lconst 0, 1) := by decide +kernel
theorem dX3_keepsLaw_1 : decode cX3_keepsLaw 1 = .ok (.lstore_n 3, 1) := by decide +kernel
theorem dX3_keepsLaw_2 : decode cX3_keepsLaw 2 = .ok (.iconst 0, 1) := by decide +kernel
theorem dX3_keepsLaw_3 : decode cX3_keepsLaw 3 = .ok (.istore 5, 2) := by decide +kernel
theorem dX3_keepsLaw_5 : decode cX3_keepsLaw 5 = .ok (.iload 5, 2) := by decide +kernel
theorem dX3_keepsLaw_7 : decode cX3_keepsLaw 7 = .ok (.bipush 100, 2) := by decide +kernel
theorem dX3_keepsLaw_9 : decode cX3_keepsLaw 9 = .ok (.if_icmp .ge 92, 3) := by decide +kernel
theorem dX3_keepsLaw_12 : decode cX3_keepsLaw 12 = .ok (.lload_n 3, 1) := by decide +kernel
theorem dX3_keepsLaw_13 : decode cX3_keepsLaw 13 = .ok (.lload_n 1, 1) := by decide +kernel
theorem dX3_keepsLaw_14 : decode cX3_keepsLaw 14 = .ok (.lcmp, 1) := by decide +kernel
theorem dX3_keepsLaw_15 : decode cX3_keepsLaw 15 = .ok (.ifCond .gt 86, 3) := by decide +kernel
theorem dX3_keepsLaw_18 : decode cX3_keepsLaw 18 = .ok (.iconst 0, 1) := by decide +kernel
theorem dX3_keepsLaw_19 : decode cX3_keepsLaw 19 = .ok (.istore 6, 2) := by decide +kernel
theorem dX3_keepsLaw_21 : decode cX3_keepsLaw 21 = .ok (.iload 6, 2) := by decide +kernel
theorem dX3_keepsLaw_23 : decode cX3_keepsLaw 23 = .ok (.aload_n 0, 1) := by decide +kernel
theorem dX3_keepsLaw_24 : decode cX3_keepsLaw 24 = .ok (.getfield 29, 3) := by decide +kernel
theorem dX3_keepsLaw_27 : decode cX3_keepsLaw 27 = .ok (.invokevirtual 39, 3) := by decide +kernel
theorem dX3_keepsLaw_30 : decode cX3_keepsLaw 30 = .ok (.if_icmp .ge 55, 3) := by decide +kernel
theorem dX3_keepsLaw_33 : decode cX3_keepsLaw 33 = .ok (.iload 5, 2) := by decide +kernel
theorem dX3_keepsLaw_35 : decode cX3_keepsLaw 35 = .ok (.aload_n 0, 1) := by decide +kernel
theorem dX3_keepsLaw_36 : decode cX3_keepsLaw 36 = .ok (.getfield 9, 3) := by decide +kernel
theorem dX3_keepsLaw_39 : decode cX3_keepsLaw 39 = .ok (.aload_n 0, 1) := by decide +kernel
theorem dX3_keepsLaw_40 : decode cX3_keepsLaw 40 = .ok (.getfield 15, 3) := by decide +kernel
theorem dX3_keepsLaw_43 : decode cX3_keepsLaw 43 = .ok (.iload 6, 2) := by decide +kernel
theorem dX3_keepsLaw_45 : decode cX3_keepsLaw 45 = .ok (.iaload, 1) := by decide +kernel
theorem dX3_keepsLaw_46 : decode cX3_keepsLaw 46 = .ok (.iaload, 1) := by decide +kernel
theorem dX3_keepsLaw_47 : decode cX3_keepsLaw 47 = .ok (.irem, 1) := by decide +kernel
theorem dX3_keepsLaw_48 : decode cX3_keepsLaw 48 = .ok (.istore 7, 2) := by decide +kernel
theorem dX3_keepsLaw_50 : decode cX3_keepsLaw 50 = .ok (.aload_n 0, 1) := by decide +kernel
theorem dX3_keepsLaw_51 : decode cX3_keepsLaw 51 = .ok (.getfield 29, 3) := by decide +kernel
theorem dX3_keepsLaw_54 : decode cX3_keepsLaw 54 = .ok (.iload 6, 2) := by decide +kernel
theorem dX3_keepsLaw_56 : decode cX3_keepsLaw 56 = .ok (.aload_n 0, 1) := by decide +kernel
theorem dX3_keepsLaw_57 : decode cX3_keepsLaw 57 = .ok (.getfield 25, 3) := by decide +kernel
theorem dX3_keepsLaw_60 : decode cX3_keepsLaw 60 = .ok (.aload_n 0, 1) := by decide +kernel
theorem dX3_keepsLaw_61 : decode cX3_keepsLaw 61 = .ok (.getfield 29, 3) := by decide +kernel
theorem dX3_keepsLaw_64 : decode cX3_keepsLaw 64 = .ok (.iload 6, 2) := by decide +kernel
theorem dX3_keepsLaw_66 : decode cX3_keepsLaw 66 = .ok (.invokevirtual 56, 3) := by decide +kernel
theorem dX3_keepsLaw_69 : decode cX3_keepsLaw 69 = .ok (.iload 5, 2) := by decide +kernel
theorem dX3_keepsLaw_71 : decode cX3_keepsLaw 71 = .ok (.iload 7, 2) := by decide +kernel
theorem dX3_keepsLaw_73 : decode cX3_keepsLaw 73 = .ok (.invokevirtual 65, 3) := by decide +kernel
theorem dX3_keepsLaw_76 : decode cX3_keepsLaw 76 = .ok (.invokevirtual 69, 3) := by decide +kernel
theorem dX3_keepsLaw_79 : decode cX3_keepsLaw 79 = .ok (.iinc 6 1, 3) := by decide +kernel
theorem dX3_keepsLaw_82 : decode cX3_keepsLaw 82 = .ok (.goto (-61), 3) := by decide +kernel
theorem dX3_keepsLaw_85 : decode cX3_keepsLaw 85 = .ok (.lload_n 3, 1) := by decide +kernel
theorem dX3_keepsLaw_86 : decode cX3_keepsLaw 86 = .ok (.aload_n 0, 1) := by decide +kernel
theorem dX3_keepsLaw_87 : decode cX3_keepsLaw 87 = .ok (.getfield 29, 3) := by decide +kernel
theorem dX3_keepsLaw_90 : decode cX3_keepsLaw 90 = .ok (.invokevirtual 73, 3) := by decide +kernel
theorem dX3_keepsLaw_93 : decode cX3_keepsLaw 93 = .ok (.ladd, 1) := by decide +kernel
theorem dX3_keepsLaw_94 : decode cX3_keepsLaw 94 = .ok (.lstore_n 3, 1) := by decide +kernel
theorem dX3_keepsLaw_95 : decode cX3_keepsLaw 95 = .ok (.iinc 5 1, 3) := by decide +kernel
theorem dX3_keepsLaw_98 : decode cX3_keepsLaw 98 = .ok (.goto (-93), 3) := by decide +kernel
theorem dX3_keepsLaw_101 : decode cX3_keepsLaw 101 = .ok (.lload_n 3, 1) := by decide +kernel
theorem dX3_keepsLaw_102 : decode cX3_keepsLaw 102 = .ok (.lload_n 1, 1) := by decide +kernel
theorem dX3_keepsLaw_103 : decode cX3_keepsLaw 103 = .ok (.lcmp, 1) := by decide +kernel
theorem dX3_keepsLaw_104 : decode cX3_keepsLaw 104 = .ok (.ifCond .gt 7, 3) := by decide +kernel
theorem dX3_keepsLaw_107 : decode cX3_keepsLaw 107 = .ok (.iconst 1, 1) := by decide +kernel
theorem dX3_keepsLaw_108 : decode cX3_keepsLaw 108 = .ok (.goto 4, 3) := by decide +kernel
theorem dX3_keepsLaw_111 : decode cX3_keepsLaw 111 = .ok (.iconst 0, 1) := by decide +kernel
theorem dX3_keepsLaw_112 : decode cX3_keepsLaw 112 = .ok (.ireturn, 1) := by decide +kernel
theorem dX4_init_0 : decode cX4_init 0 = .ok (.aload_n 0, 1) := by decide +kernel
theorem dX4_init_1 : decode cX4_init 1 = .ok (.invokespecial 3, 3) := by decide +kernel
theorem dX4_init_4 : decode cX4_init 4 = .ok (.aload_n 0, 1) := by decide +kernel
theorem dX4_init_5 : decode cX4_init 5 = .ok (.bipush 12, 2) := by decide +kernel
theorem dX4_init_7 : decode cX4_init 7 = .ok (.newarray .int, 2) := by decide +kernel
theorem dX4_init_9 : decode cX4_init 9 = .ok (.putfield 9, 3) := by decide +kernel
theorem dX4_init_12 : decode cX4_init 12 = .ok (.aload_n 0, 1) := by decide +kernel
theorem dX4_init_13 : decode cX4_init 13 = .ok (.bipush 12, 2) := by decide +kernel
theorem dX4_init_15 : decode cX4_init 15 = .ok (.newarray .int, 2) := by decide +kernel
theorem dX4_init_17 : decode cX4_init 17 = .ok (.putfield 15, 3) := by decide +kernel
theorem dX4_init_20 : decode cX4_init 20 = .ok (.aload_n 0, 1) := by decide +kernel
theorem dX4_init_21 : decode cX4_init 21 = .ok (.bipush 48, 2) := by decide +kernel
theorem dX4_init_23 : decode cX4_init 23 = .ok (.newarray .int, 2) := by decide +kernel
theorem dX4_init_25 : decode cX4_init 25 = .ok (.putfield 18, 3) := by decide +kernel
theorem dX4_init_28 : decode cX4_init 28 = .ok (.aload_n 0, 1) := by decide +kernel
theorem dX4_init_29 : decode cX4_init 29 = .ok (.bipush 12, 2) := by decide +kernel
theorem dX4_init_31 : decode cX4_init 31 = .ok (.newarray .int, 2) := by decide +kernel
theorem dX4_init_33 : decode cX4_init 33 = .ok (.putfield 21, 3) := by decide +kernel
theorem dX4_init_36 : decode cX4_init 36 = .ok (.aload_n 0, 1) := by decide +kernel
theorem dX4_init_37 : decode cX4_init 37 = .ok (.bipush 48, 2) := by decide +kernel
theorem dX4_init_39 : decode cX4_init 39 = .ok (.newarray .long, 2) := by decide +kernel
theorem dX4_init_41 : decode cX4_init 41 = .ok (.putfield 24, 3) := by decide +kernel
theorem dX4_init_44 : decode cX4_init 44 = .ok (.aload_n 0, 1) := by decide +kernel
theorem dX4_init_45 : decode cX4_init 45 = .ok (.iconst 0, 1) := by decide +kernel
theorem dX4_init_46 : decode cX4_init 46 = .ok (.putfield 28, 3) := by decide +kernel
theorem dX4_init_49 : decode cX4_init 49 = .ok (.return_, 1) := by decide +kernel
theorem dX4_has_0 : decode cX4_has 0 = .ok (.iload_n 1, 1) := by decide +kernel
theorem dX4_has_1 : decode cX4_has 1 = .ok (.ifCond .lt 15, 3) := by decide +kernel
theorem dX4_has_4 : decode cX4_has 4 = .ok (.iload_n 1, 1) := by decide +kernel
theorem dX4_has_5 : decode cX4_has 5 = .ok (.aload_n 0, 1) := by decide +kernel
theorem dX4_has_6 : decode cX4_has 6 = .ok (.getfield 28, 3) := by decide +kernel
theorem dX4_has_9 : decode cX4_has 9 = .ok (.if_icmp .ge 7, 3) := by decide +kernel
theorem dX4_has_12 : decode cX4_has 12 = .ok (.iconst 1, 1) := by decide +kernel
theorem dX4_has_13 : decode cX4_has 13 = .ok (.goto 4, 3) := by decide +kernel
theorem dX4_has_16 : decode cX4_has 16 = .ok (.iconst 0, 1) := by decide +kernel
theorem dX4_has_17 : decode cX4_has 17 = .ok (.ireturn, 1) := by decide +kernel
theorem dX4_size_0 : decode cX4_size 0 = .ok (.aload_n 0, 1) := by decide +kernel
theorem dX4_size_1 : decode cX4_size 1 = .ok (.getfield 28, 3) := by decide +kernel
theorem dX4_size_4 : decode cX4_size 4 = .ok (.ireturn, 1) := by decide +kernel
theorem dX4_partsBelow_0 : decode cX4_partsBelow 0 = .ok (.aload_n 0, 1) := by decide +kernel
theorem dX4_partsBelow_1 : decode cX4_partsBelow 1 = .ok (.getfield 21, 3) := by decide +kernel
theorem dX4_partsBelow_4 : decode cX4_partsBelow 4 = .ok (.iload_n 1, 1) := by decide +kernel
theorem dX4_partsBelow_5 : decode cX4_partsBelow 5 = .ok (.iaload, 1) := by decide +kernel
theorem dX4_partsBelow_6 : decode cX4_partsBelow 6 = .ok (.ireturn, 1) := by decide +kernel
theorem dX4_sizeBelow_0 : decode cX4_sizeBelow 0 = .ok (.aload_n 0, 1) := by decide +kernel
theorem dX4_sizeBelow_1 : decode cX4_sizeBelow 1 = .ok (.getfield 21, 3) := by decide +kernel
theorem dX4_sizeBelow_4 : decode cX4_sizeBelow 4 = .ok (.iload_n 1, 1) := by decide +kernel
theorem dX4_sizeBelow_5 : decode cX4_sizeBelow 5 = .ok (.iaload, 1) := by decide +kernel
theorem dX4_sizeBelow_6 : decode cX4_sizeBelow 6 = .ok (.invokestatic 32, 3) := by decide +kernel
theorem dX4_sizeBelow_9 : decode cX4_sizeBelow 9 = .ok (.ireturn, 1) := by decide +kernel
theorem dX4_add_0 : decode cX4_add 0 = .ok (.aload_n 0, 1) := by decide +kernel
theorem dX4_add_1 : decode cX4_add 1 = .ok (.getfield 28, 3) := by decide +kernel
theorem dX4_add_4 : decode cX4_add 4 = .ok (.bipush 12, 2) := by decide +kernel
theorem dX4_add_6 : decode cX4_add 6 = .ok (.if_icmp .lt 6, 3) := by decide +kernel
theorem dX4_add_9 : decode cX4_add 9 = .ok (.bipush (-3), 2) := by decide +kernel
theorem dX4_add_11 : decode cX4_add 11 = .ok (.ireturn, 1) := by decide +kernel
theorem dX4_add_12 : decode cX4_add 12 = .ok (.aload_n 0, 1) := by decide +kernel
theorem dX4_add_13 : decode cX4_add 13 = .ok (.getfield 28, 3) := by decide +kernel
theorem dX4_add_16 : decode cX4_add 16 = .ok (.istore 4, 2) := by decide +kernel
theorem dX4_add_18 : decode cX4_add 18 = .ok (.aload_n 0, 1) := by decide +kernel
theorem dX4_add_19 : decode cX4_add 19 = .ok (.getfield 9, 3) := by decide +kernel
theorem dX4_add_22 : decode cX4_add 22 = .ok (.iload 4, 2) := by decide +kernel
theorem dX4_add_24 : decode cX4_add 24 = .ok (.iload_n 1, 1) := by decide +kernel
theorem dX4_add_25 : decode cX4_add 25 = .ok (.iastore, 1) := by decide +kernel
theorem dX4_add_26 : decode cX4_add 26 = .ok (.aload_n 0, 1) := by decide +kernel
theorem dX4_add_27 : decode cX4_add 27 = .ok (.getfield 15, 3) := by decide +kernel
theorem dX4_add_30 : decode cX4_add 30 = .ok (.iload 4, 2) := by decide +kernel
theorem dX4_add_32 : decode cX4_add 32 = .ok (.iload_n 2, 1) := by decide +kernel
theorem dX4_add_33 : decode cX4_add 33 = .ok (.iastore, 1) := by decide +kernel
theorem dX4_add_34 : decode cX4_add 34 = .ok (.iconst 0, 1) := by decide +kernel
theorem dX4_add_35 : decode cX4_add 35 = .ok (.istore 5, 2) := by decide +kernel
theorem dX4_add_37 : decode cX4_add 37 = .ok (.iload 5, 2) := by decide +kernel
theorem dX4_add_39 : decode cX4_add 39 = .ok (.iload_n 2, 1) := by decide +kernel
theorem dX4_add_40 : decode cX4_add 40 = .ok (.if_icmp .ge 43, 3) := by decide +kernel
theorem dX4_add_43 : decode cX4_add 43 = .ok (.aload_n 0, 1) := by decide +kernel
theorem dX4_add_44 : decode cX4_add 44 = .ok (.getfield 18, 3) := by decide +kernel
theorem dX4_add_47 : decode cX4_add 47 = .ok (.iload 4, 2) := by decide +kernel
theorem dX4_add_49 : decode cX4_add 49 = .ok (.iconst 4, 1) := by decide +kernel
theorem dX4_add_50 : decode cX4_add 50 = .ok (.imul, 1) := by decide +kernel
theorem dX4_add_51 : decode cX4_add 51 = .ok (.iload 5, 2) := by decide +kernel
theorem dX4_add_53 : decode cX4_add 53 = .ok (.iadd, 1) := by decide +kernel
theorem dX4_add_54 : decode cX4_add 54 = .ok (.aload_n 3, 1) := by decide +kernel
theorem dX4_add_55 : decode cX4_add 55 = .ok (.iload 5, 2) := by decide +kernel
theorem dX4_add_57 : decode cX4_add 57 = .ok (.iaload, 1) := by decide +kernel
theorem dX4_add_58 : decode cX4_add 58 = .ok (.iastore, 1) := by decide +kernel
theorem dX4_add_59 : decode cX4_add 59 = .ok (.aload_n 0, 1) := by decide +kernel
theorem dX4_add_60 : decode cX4_add 60 = .ok (.getfield 21, 3) := by decide +kernel
theorem dX4_add_63 : decode cX4_add 63 = .ok (.iload 4, 2) := by decide +kernel
theorem dX4_add_65 : decode cX4_add 65 = .ok (.dup2, 1) := by decide +kernel
theorem dX4_add_66 : decode cX4_add 66 = .ok (.iaload, 1) := by decide +kernel
theorem dX4_add_67 : decode cX4_add 67 = .ok (.aload_n 0, 1) := by decide +kernel
theorem dX4_add_68 : decode cX4_add 68 = .ok (.aload_n 3, 1) := by decide +kernel
theorem dX4_add_69 : decode cX4_add 69 = .ok (.iload 5, 2) := by decide +kernel
theorem dX4_add_71 : decode cX4_add 71 = .ok (.iaload, 1) := by decide +kernel
theorem dX4_add_72 : decode cX4_add 72 = .ok (.invokevirtual 38, 3) := by decide +kernel
theorem dX4_add_75 : decode cX4_add 75 = .ok (.ior, 1) := by decide +kernel
theorem dX4_add_76 : decode cX4_add 76 = .ok (.iastore, 1) := by decide +kernel
theorem dX4_add_77 : decode cX4_add 77 = .ok (.iinc 5 1, 3) := by decide +kernel
theorem dX4_add_80 : decode cX4_add 80 = .ok (.goto (-43), 3) := by decide +kernel
theorem dX4_add_83 : decode cX4_add 83 = .ok (.aload_n 0, 1) := by decide +kernel
theorem dX4_add_84 : decode cX4_add 84 = .ok (.iload 4, 2) := by decide +kernel
theorem dX4_add_86 : decode cX4_add 86 = .ok (.invokevirtual 41, 3) := by decide +kernel
theorem dX4_add_89 : decode cX4_add 89 = .ok (.bipush 8, 2) := by decide +kernel
theorem dX4_add_91 : decode cX4_add 91 = .ok (.if_icmp .gt 9, 3) := by decide +kernel
theorem dX4_add_94 : decode cX4_add 94 = .ok (.aload_n 0, 1) := by decide +kernel
theorem dX4_add_95 : decode cX4_add 95 = .ok (.iload 4, 2) := by decide +kernel
theorem dX4_add_97 : decode cX4_add 97 = .ok (.invokevirtual 44, 3) := by decide +kernel
theorem dX4_add_100 : decode cX4_add 100 = .ok (.aload_n 0, 1) := by decide +kernel
theorem dX4_add_101 : decode cX4_add 101 = .ok (.dup, 1) := by decide +kernel
theorem dX4_add_102 : decode cX4_add 102 = .ok (.getfield 28, 3) := by decide +kernel
theorem dX4_add_105 : decode cX4_add 105 = .ok (.iconst 1, 1) := by decide +kernel
theorem dX4_add_106 : decode cX4_add 106 = .ok (.iadd, 1) := by decide +kernel
theorem dX4_add_107 : decode cX4_add 107 = .ok (.putfield 28, 3) := by decide +kernel
theorem dX4_add_110 : decode cX4_add 110 = .ok (.iload 4, 2) := by decide +kernel
theorem dX4_add_112 : decode cX4_add 112 = .ok (.ireturn, 1) := by decide +kernel
theorem dX4_actsIn_0 : decode cX4_actsIn 0 = .ok (.aload_n 0, 1) := by decide +kernel
theorem dX4_actsIn_1 : decode cX4_actsIn 1 = .ok (.getfield 24, 3) := by decide +kernel
theorem dX4_actsIn_4 : decode cX4_actsIn 4 = .ok (.iload_n 1, 1) := by decide +kernel
theorem dX4_actsIn_5 : decode cX4_actsIn 5 = .ok (.iconst 4, 1) := by decide +kernel
theorem dX4_actsIn_6 : decode cX4_actsIn 6 = .ok (.imul, 1) := by decide +kernel
theorem dX4_actsIn_7 : decode cX4_actsIn 7 = .ok (.iload_n 2, 1) := by decide +kernel
theorem dX4_actsIn_8 : decode cX4_actsIn 8 = .ok (.bipush 6, 2) := by decide +kernel
theorem dX4_actsIn_10 : decode cX4_actsIn 10 = .ok (.ishr, 1) := by decide +kernel
theorem dX4_actsIn_11 : decode cX4_actsIn 11 = .ok (.iadd, 1) := by decide +kernel
theorem dX4_actsIn_12 : decode cX4_actsIn 12 = .ok (.laload, 1) := by decide +kernel
theorem dX4_actsIn_13 : decode cX4_actsIn 13 = .ok (.iload_n 2, 1) := by decide +kernel
theorem dX4_actsIn_14 : decode cX4_actsIn 14 = .ok (.bipush 63, 2) := by decide +kernel
theorem dX4_actsIn_16 : decode cX4_actsIn 16 = .ok (.iand, 1) := by decide +kernel
theorem dX4_actsIn_17 : decode cX4_actsIn 17 = .ok (.lushr, 1) := by decide +kernel
theorem dX4_actsIn_18 : decode cX4_actsIn 18 = .ok (.lconst 1, 1) := by decide +kernel
theorem dX4_actsIn_19 : decode cX4_actsIn 19 = .ok (.land, 1) := by decide +kernel
theorem dX4_actsIn_20 : decode cX4_actsIn 20 = .ok (.lconst 0, 1) := by decide +kernel
theorem dX4_actsIn_21 : decode cX4_actsIn 21 = .ok (.lcmp, 1) := by decide +kernel
theorem dX4_actsIn_22 : decode cX4_actsIn 22 = .ok (.ifCond .eq 7, 3) := by decide +kernel
theorem dX4_actsIn_25 : decode cX4_actsIn 25 = .ok (.iconst 1, 1) := by decide +kernel
theorem dX4_actsIn_26 : decode cX4_actsIn 26 = .ok (.goto 4, 3) := by decide +kernel
theorem dX4_actsIn_29 : decode cX4_actsIn 29 = .ok (.iconst 0, 1) := by decide +kernel
theorem dX4_actsIn_30 : decode cX4_actsIn 30 = .ok (.ireturn, 1) := by decide +kernel
theorem dX4_partsOfInput_0 : decode cX4_partsOfInput 0 = .ok (.iload_n 1, 1) := by decide +kernel
theorem dX4_partsOfInput_1 : decode cX4_partsOfInput 1 = .ok (.bipush 12, 2) := by decide +kernel
theorem dX4_partsOfInput_3 : decode cX4_partsOfInput 3 = .ok (.if_icmp .ge 9, 3) := by decide +kernel
theorem dX4_partsOfInput_6 : decode cX4_partsOfInput 6 = .ok (.iconst 1, 1) := by decide +kernel
theorem dX4_partsOfInput_7 : decode cX4_partsOfInput 7 = .ok (.iload_n 1, 1) := by decide +kernel
theorem dX4_partsOfInput_8 : decode cX4_partsOfInput 8 = .ok (.ishl, 1) := by decide +kernel
theorem dX4_partsOfInput_9 : decode cX4_partsOfInput 9 = .ok (.goto 12, 3) := by decide +kernel
theorem dX4_partsOfInput_12 : decode cX4_partsOfInput 12 = .ok (.aload_n 0, 1) := by decide +kernel
theorem dX4_partsOfInput_13 : decode cX4_partsOfInput 13 = .ok (.getfield 21, 3) := by decide +kernel
theorem dX4_partsOfInput_16 : decode cX4_partsOfInput 16 = .ok (.iload_n 1, 1) := by decide +kernel
theorem dX4_partsOfInput_17 : decode cX4_partsOfInput 17 = .ok (.bipush 12, 2) := by decide +kernel
theorem dX4_partsOfInput_19 : decode cX4_partsOfInput 19 = .ok (.isub, 1) := by decide +kernel
theorem dX4_partsOfInput_20 : decode cX4_partsOfInput 20 = .ok (.iaload, 1) := by decide +kernel
theorem dX4_partsOfInput_21 : decode cX4_partsOfInput 21 = .ok (.ireturn, 1) := by decide +kernel
theorem dX4_workOutActingSets_0 : decode cX4_workOutActingSets 0 = .ok (.iconst 1, 1) := by decide +kernel
theorem dX4_workOutActingSets_1 : decode cX4_workOutActingSets 1 = .ok (.aload_n 0, 1) := by decide +kernel
theorem dX4_workOutActingSets_2 : decode cX4_workOutActingSets 2 = .ok (.iload_n 1, 1) := by decide +kernel
theorem dX4_workOutActingSets_3 : decode cX4_workOutActingSets 3 = .ok (.invokevirtual 41, 3) := by decide +kernel
theorem dX4_workOutActingSets_6 : decode cX4_workOutActingSets 6 = .ok (.ishl, 1) := by decide +kernel
theorem dX4_workOutActingSets_7 : decode cX4_workOutActingSets 7 = .ok (.istore_n 2, 1) := by decide +kernel
theorem dX4_workOutActingSets_8 : decode cX4_workOutActingSets 8 = .ok (.iconst 0, 1) := by decide +kernel
theorem dX4_workOutActingSets_9 : decode cX4_workOutActingSets 9 = .ok (.istore_n 3, 1) := by decide +kernel
theorem dX4_workOutActingSets_10 : decode cX4_workOutActingSets 10 = .ok (.iload_n 3, 1) := by decide +kernel
theorem dX4_workOutActingSets_11 : decode cX4_workOutActingSets 11 = .ok (.iload_n 2, 1) := by decide +kernel
theorem dX4_workOutActingSets_12 : decode cX4_workOutActingSets 12 = .ok (.if_icmp .ge 55, 3) := by decide +kernel
theorem dX4_workOutActingSets_15 : decode cX4_workOutActingSets 15 = .ok (.aload_n 0, 1) := by decide +kernel
theorem dX4_workOutActingSets_16 : decode cX4_workOutActingSets 16 = .ok (.iload_n 1, 1) := by decide +kernel
theorem dX4_workOutActingSets_17 : decode cX4_workOutActingSets 17 = .ok (.iload_n 3, 1) := by decide +kernel
theorem dX4_workOutActingSets_18 : decode cX4_workOutActingSets 18 = .ok (.aload_n 0, 1) := by decide +kernel
theorem dX4_workOutActingSets_19 : decode cX4_workOutActingSets 19 = .ok (.getfield 21, 3) := by decide +kernel
theorem dX4_workOutActingSets_22 : decode cX4_workOutActingSets 22 = .ok (.iload_n 1, 1) := by decide +kernel
theorem dX4_workOutActingSets_23 : decode cX4_workOutActingSets 23 = .ok (.iaload, 1) := by decide +kernel
theorem dX4_workOutActingSets_24 : decode cX4_workOutActingSets 24 = .ok (.invokestatic 48, 3) := by decide +kernel
theorem dX4_workOutActingSets_27 : decode cX4_workOutActingSets 27 = .ok (.invokevirtual 52, 3) := by decide +kernel
theorem dX4_workOutActingSets_30 : decode cX4_workOutActingSets 30 = .ok (.aload_n 0, 1) := by decide +kernel
theorem dX4_workOutActingSets_31 : decode cX4_workOutActingSets 31 = .ok (.getfield 9, 3) := by decide +kernel
theorem dX4_workOutActingSets_34 : decode cX4_workOutActingSets 34 = .ok (.iload_n 1, 1) := by decide +kernel
theorem dX4_workOutActingSets_35 : decode cX4_workOutActingSets 35 = .ok (.iaload, 1) := by decide +kernel
theorem dX4_workOutActingSets_36 : decode cX4_workOutActingSets 36 = .ok (.if_icmp .lt 25, 3) := by decide +kernel
theorem dX4_workOutActingSets_39 : decode cX4_workOutActingSets 39 = .ok (.aload_n 0, 1) := by decide +kernel
theorem dX4_workOutActingSets_40 : decode cX4_workOutActingSets 40 = .ok (.getfield 24, 3) := by decide +kernel
theorem dX4_workOutActingSets_43 : decode cX4_workOutActingSets 43 = .ok (.iload_n 1, 1) := by decide +kernel
theorem dX4_workOutActingSets_44 : decode cX4_workOutActingSets 44 = .ok (.iconst 4, 1) := by decide +kernel
theorem dX4_workOutActingSets_45 : decode cX4_workOutActingSets 45 = .ok (.imul, 1) := by decide +kernel
theorem dX4_workOutActingSets_46 : decode cX4_workOutActingSets 46 = .ok (.iload_n 3, 1) := by decide +kernel
theorem dX4_workOutActingSets_47 : decode cX4_workOutActingSets 47 = .ok (.bipush 6, 2) := by decide +kernel
theorem dX4_workOutActingSets_49 : decode cX4_workOutActingSets 49 = .ok (.ishr, 1) := by decide +kernel
theorem dX4_workOutActingSets_50 : decode cX4_workOutActingSets 50 = .ok (.iadd, 1) := by decide +kernel
theorem dX4_workOutActingSets_51 : decode cX4_workOutActingSets 51 = .ok (.dup2, 1) := by decide +kernel
theorem dX4_workOutActingSets_52 : decode cX4_workOutActingSets 52 = .ok (.laload, 1) := by decide +kernel
theorem dX4_workOutActingSets_53 : decode cX4_workOutActingSets 53 = .ok (.lconst 1, 1) := by decide +kernel
theorem dX4_workOutActingSets_54 : decode cX4_workOutActingSets 54 = .ok (.iload_n 3, 1) := by decide +kernel
theorem dX4_workOutActingSets_55 : decode cX4_workOutActingSets 55 = .ok (.bipush 63, 2) := by decide +kernel
theorem dX4_workOutActingSets_57 : decode cX4_workOutActingSets 57 = .ok (.iand, 1) := by decide +kernel
theorem dX4_workOutActingSets_58 : decode cX4_workOutActingSets 58 = .ok (.lshl, 1) := by decide +kernel
theorem dX4_workOutActingSets_59 : decode cX4_workOutActingSets 59 = .ok (.lor, 1) := by decide +kernel
theorem dX4_workOutActingSets_60 : decode cX4_workOutActingSets 60 = .ok (.lastore, 1) := by decide +kernel
theorem dX4_workOutActingSets_61 : decode cX4_workOutActingSets 61 = .ok (.iinc 3 1, 3) := by decide +kernel
theorem dX4_workOutActingSets_64 : decode cX4_workOutActingSets 64 = .ok (.goto (-54), 3) := by decide +kernel
theorem dX4_workOutActingSets_67 : decode cX4_workOutActingSets 67 = .ok (.return_, 1) := by decide +kernel
theorem dX4_actingInputs_0 : decode cX4_actingInputs 0 = .ok (.iconst 0, 1) := by decide +kernel
theorem dX4_actingInputs_1 : decode cX4_actingInputs 1 = .ok (.istore_n 3, 1) := by decide +kernel
theorem dX4_actingInputs_2 : decode cX4_actingInputs 2 = .ok (.iconst 0, 1) := by decide +kernel
theorem dX4_actingInputs_3 : decode cX4_actingInputs 3 = .ok (.istore 4, 2) := by decide +kernel
theorem dX4_actingInputs_5 : decode cX4_actingInputs 5 = .ok (.iload 4, 2) := by decide +kernel
theorem dX4_actingInputs_7 : decode cX4_actingInputs 7 = .ok (.aload_n 0, 1) := by decide +kernel
theorem dX4_actingInputs_8 : decode cX4_actingInputs 8 = .ok (.getfield 15, 3) := by decide +kernel
theorem dX4_actingInputs_11 : decode cX4_actingInputs 11 = .ok (.iload_n 1, 1) := by decide +kernel
theorem dX4_actingInputs_12 : decode cX4_actingInputs 12 = .ok (.iaload, 1) := by decide +kernel
theorem dX4_actingInputs_13 : decode cX4_actingInputs 13 = .ok (.if_icmp .ge 31, 3) := by decide +kernel
theorem dX4_actingInputs_16 : decode cX4_actingInputs 16 = .ok (.aload_n 0, 1) := by decide +kernel
theorem dX4_actingInputs_17 : decode cX4_actingInputs 17 = .ok (.aload_n 0, 1) := by decide +kernel
theorem dX4_actingInputs_18 : decode cX4_actingInputs 18 = .ok (.getfield 18, 3) := by decide +kernel
theorem dX4_actingInputs_21 : decode cX4_actingInputs 21 = .ok (.iload_n 1, 1) := by decide +kernel
theorem dX4_actingInputs_22 : decode cX4_actingInputs 22 = .ok (.iconst 4, 1) := by decide +kernel
theorem dX4_actingInputs_23 : decode cX4_actingInputs 23 = .ok (.imul, 1) := by decide +kernel
theorem dX4_actingInputs_24 : decode cX4_actingInputs 24 = .ok (.iload 4, 2) := by decide +kernel
theorem dX4_actingInputs_26 : decode cX4_actingInputs 26 = .ok (.iadd, 1) := by decide +kernel
theorem dX4_actingInputs_27 : decode cX4_actingInputs 27 = .ok (.iaload, 1) := by decide +kernel
theorem dX4_actingInputs_28 : decode cX4_actingInputs 28 = .ok (.iload_n 2, 1) := by decide +kernel
theorem dX4_actingInputs_29 : decode cX4_actingInputs 29 = .ok (.invokevirtual 55, 3) := by decide +kernel
theorem dX4_actingInputs_32 : decode cX4_actingInputs 32 = .ok (.ifCond .eq 6, 3) := by decide +kernel
theorem dX4_actingInputs_35 : decode cX4_actingInputs 35 = .ok (.iinc 3 1, 3) := by decide +kernel
theorem dX4_actingInputs_38 : decode cX4_actingInputs 38 = .ok (.iinc 4 1, 3) := by decide +kernel
theorem dX4_actingInputs_41 : decode cX4_actingInputs 41 = .ok (.goto (-36), 3) := by decide +kernel
theorem dX4_actingInputs_44 : decode cX4_actingInputs 44 = .ok (.iload_n 3, 1) := by decide +kernel
theorem dX4_actingInputs_45 : decode cX4_actingInputs 45 = .ok (.ireturn, 1) := by decide +kernel
theorem dX4_inputActs_0 : decode cX4_inputActs 0 = .ok (.iload_n 1, 1) := by decide +kernel
theorem dX4_inputActs_1 : decode cX4_inputActs 1 = .ok (.bipush 12, 2) := by decide +kernel
theorem dX4_inputActs_3 : decode cX4_inputActs 3 = .ok (.if_icmp .ge 9, 3) := by decide +kernel
theorem dX4_inputActs_6 : decode cX4_inputActs 6 = .ok (.iload_n 2, 1) := by decide +kernel
theorem dX4_inputActs_7 : decode cX4_inputActs 7 = .ok (.iload_n 1, 1) := by decide +kernel
theorem dX4_inputActs_8 : decode cX4_inputActs 8 = .ok (.invokestatic 59, 3) := by decide +kernel
theorem dX4_inputActs_11 : decode cX4_inputActs 11 = .ok (.ireturn, 1) := by decide +kernel
theorem dX4_inputActs_12 : decode cX4_inputActs 12 = .ok (.iload_n 1, 1) := by decide +kernel
theorem dX4_inputActs_13 : decode cX4_inputActs 13 = .ok (.bipush 12, 2) := by decide +kernel
theorem dX4_inputActs_15 : decode cX4_inputActs 15 = .ok (.isub, 1) := by decide +kernel
theorem dX4_inputActs_16 : decode cX4_inputActs 16 = .ok (.istore_n 3, 1) := by decide +kernel
theorem dX4_inputActs_17 : decode cX4_inputActs 17 = .ok (.aload_n 0, 1) := by decide +kernel
theorem dX4_inputActs_18 : decode cX4_inputActs 18 = .ok (.iload_n 3, 1) := by decide +kernel
theorem dX4_inputActs_19 : decode cX4_inputActs 19 = .ok (.iload_n 2, 1) := by decide +kernel
theorem dX4_inputActs_20 : decode cX4_inputActs 20 = .ok (.aload_n 0, 1) := by decide +kernel
theorem dX4_inputActs_21 : decode cX4_inputActs 21 = .ok (.getfield 21, 3) := by decide +kernel
theorem dX4_inputActs_24 : decode cX4_inputActs 24 = .ok (.iload_n 3, 1) := by decide +kernel
theorem dX4_inputActs_25 : decode cX4_inputActs 25 = .ok (.iaload, 1) := by decide +kernel
theorem dX4_inputActs_26 : decode cX4_inputActs 26 = .ok (.invokestatic 62, 3) := by decide +kernel
theorem dX4_inputActs_29 : decode cX4_inputActs 29 = .ok (.invokevirtual 65, 3) := by decide +kernel
theorem dX4_inputActs_32 : decode cX4_inputActs 32 = .ok (.ireturn, 1) := by decide +kernel
theorem dX5_init_0 : decode cX5_init 0 = .ok (.aload_n 0, 1) := by decide +kernel
theorem dX5_init_1 : decode cX5_init 1 = .ok (.invokespecial 1, 3) := by decide +kernel
theorem dX5_init_4 : decode cX5_init 4 = .ok (.aload_n 0, 1) := by decide +kernel
theorem dX5_init_5 : decode cX5_init 5 = .ok (.new 7, 3) := by decide +kernel
theorem dX5_init_8 : decode cX5_init 8 = .ok (.dup, 1) := by decide +kernel
theorem dX5_init_9 : decode cX5_init 9 = .ok (.invokespecial 9, 3) := by decide +kernel
theorem dX5_init_12 : decode cX5_init 12 = .ok (.putfield 10, 3) := by decide +kernel
theorem dX5_init_15 : decode cX5_init 15 = .ok (.aload_n 0, 1) := by decide +kernel
theorem dX5_init_16 : decode cX5_init 16 = .ok (.new 16, 3) := by decide +kernel
theorem dX5_init_19 : decode cX5_init 19 = .ok (.dup, 1) := by decide +kernel
theorem dX5_init_20 : decode cX5_init 20 = .ok (.invokespecial 18, 3) := by decide +kernel
theorem dX5_init_23 : decode cX5_init 23 = .ok (.putfield 19, 3) := by decide +kernel
theorem dX5_init_26 : decode cX5_init 26 = .ok (.aload_n 0, 1) := by decide +kernel
theorem dX5_init_27 : decode cX5_init 27 = .ok (.new 23, 3) := by decide +kernel
theorem dX5_init_30 : decode cX5_init 30 = .ok (.dup, 1) := by decide +kernel
theorem dX5_init_31 : decode cX5_init 31 = .ok (.invokespecial 25, 3) := by decide +kernel
theorem dX5_init_34 : decode cX5_init 34 = .ok (.putfield 26, 3) := by decide +kernel
theorem dX5_init_37 : decode cX5_init 37 = .ok (.aload_n 0, 1) := by decide +kernel
theorem dX5_init_38 : decode cX5_init 38 = .ok (.new 30, 3) := by decide +kernel
theorem dX5_init_41 : decode cX5_init 41 = .ok (.dup, 1) := by decide +kernel
theorem dX5_init_42 : decode cX5_init 42 = .ok (.aload_n 0, 1) := by decide +kernel
theorem dX5_init_43 : decode cX5_init 43 = .ok (.getfield 10, 3) := by decide +kernel
theorem dX5_init_46 : decode cX5_init 46 = .ok (.aload_n 0, 1) := by decide +kernel
theorem dX5_init_47 : decode cX5_init 47 = .ok (.getfield 19, 3) := by decide +kernel
theorem dX5_init_50 : decode cX5_init 50 = .ok (.aload_n 0, 1) := by decide +kernel
theorem dX5_init_51 : decode cX5_init 51 = .ok (.getfield 26, 3) := by decide +kernel
theorem dX5_init_54 : decode cX5_init 54 = .ok (.invokespecial 32, 3) := by decide +kernel
theorem dX5_init_57 : decode cX5_init 57 = .ok (.putfield 35, 3) := by decide +kernel
theorem dX5_init_60 : decode cX5_init 60 = .ok (.aload_n 0, 1) := by decide +kernel
theorem dX5_init_61 : decode cX5_init 61 = .ok (.new 39, 3) := by decide +kernel
theorem dX5_init_64 : decode cX5_init 64 = .ok (.dup, 1) := by decide +kernel
theorem dX5_init_65 : decode cX5_init 65 = .ok (.aload_n 0, 1) := by decide +kernel
theorem dX5_init_66 : decode cX5_init 66 = .ok (.getfield 10, 3) := by decide +kernel
theorem dX5_init_69 : decode cX5_init 69 = .ok (.aload_n 0, 1) := by decide +kernel
theorem dX5_init_70 : decode cX5_init 70 = .ok (.getfield 35, 3) := by decide +kernel
theorem dX5_init_73 : decode cX5_init 73 = .ok (.invokespecial 41, 3) := by decide +kernel
theorem dX5_init_76 : decode cX5_init 76 = .ok (.putfield 44, 3) := by decide +kernel
theorem dX5_init_79 : decode cX5_init 79 = .ok (.aload_n 0, 1) := by decide +kernel
theorem dX5_init_80 : decode cX5_init 80 = .ok (.iconst 4, 1) := by decide +kernel
theorem dX5_init_81 : decode cX5_init 81 = .ok (.newarray .int, 2) := by decide +kernel
theorem dX5_init_83 : decode cX5_init 83 = .ok (.putfield 48, 3) := by decide +kernel
theorem dX5_init_86 : decode cX5_init 86 = .ok (.return_, 1) := by decide +kernel
theorem dX5_part_0 : decode cX5_part 0 = .ok (.iload_n 1, 1) := by decide +kernel
theorem dX5_part_1 : decode cX5_part 1 = .ok (.invokestatic 52, 3) := by decide +kernel
theorem dX5_part_4 : decode cX5_part 4 = .ok (.ifCond .eq 17, 3) := by decide +kernel
theorem dX5_part_7 : decode cX5_part 7 = .ok (.iload_n 2, 1) := by decide +kernel
theorem dX5_part_8 : decode cX5_part 8 = .ok (.invokestatic 52, 3) := by decide +kernel
theorem dX5_part_11 : decode cX5_part 11 = .ok (.ifCond .eq 10, 3) := by decide +kernel
theorem dX5_part_14 : decode cX5_part 14 = .ok (.iload_n 3, 1) := by decide +kernel
theorem dX5_part_15 : decode cX5_part 15 = .ok (.invokestatic 52, 3) := by decide +kernel
theorem dX5_part_18 : decode cX5_part 18 = .ok (.ifCond .ne 5, 3) := by decide +kernel
theorem dX5_part_21 : decode cX5_part 21 = .ok (.iconst (-1), 1) := by decide +kernel
theorem dX5_part_22 : decode cX5_part 22 = .ok (.ireturn, 1) := by decide +kernel
theorem dX5_part_23 : decode cX5_part 23 = .ok (.aload_n 0, 1) := by decide +kernel
theorem dX5_part_24 : decode cX5_part 24 = .ok (.getfield 10, 3) := by decide +kernel
theorem dX5_part_27 : decode cX5_part 27 = .ok (.iload_n 1, 1) := by decide +kernel
theorem dX5_part_28 : decode cX5_part 28 = .ok (.iload_n 2, 1) := by decide +kernel
theorem dX5_part_29 : decode cX5_part 29 = .ok (.iload_n 3, 1) := by decide +kernel
theorem dX5_part_30 : decode cX5_part 30 = .ok (.invokevirtual 56, 3) := by decide +kernel
theorem dX5_part_33 : decode cX5_part 33 = .ok (.ireturn, 1) := by decide +kernel
theorem dX5_test_0 : decode cX5_test 0 = .ok (.aload_n 0, 1) := by decide +kernel
theorem dX5_test_1 : decode cX5_test 1 = .ok (.getfield 10, 3) := by decide +kernel
theorem dX5_test_4 : decode cX5_test 4 = .ok (.iload_n 1, 1) := by decide +kernel
theorem dX5_test_5 : decode cX5_test 5 = .ok (.invokevirtual 60, 3) := by decide +kernel
theorem dX5_test_8 : decode cX5_test 8 = .ok (.ifCond .eq 10, 3) := by decide +kernel
theorem dX5_test_11 : decode cX5_test 11 = .ok (.iload_n 2, 1) := by decide +kernel
theorem dX5_test_12 : decode cX5_test 12 = .ok (.invokestatic 63, 3) := by decide +kernel
theorem dX5_test_15 : decode cX5_test 15 = .ok (.ifCond .ne 5, 3) := by decide +kernel
theorem dX5_test_18 : decode cX5_test 18 = .ok (.iconst (-1), 1) := by decide +kernel
theorem dX5_test_19 : decode cX5_test 19 = .ok (.ireturn, 1) := by decide +kernel
theorem dX5_test_20 : decode cX5_test 20 = .ok (.aload_n 0, 1) := by decide +kernel
theorem dX5_test_21 : decode cX5_test 21 = .ok (.getfield 10, 3) := by decide +kernel
theorem dX5_test_24 : decode cX5_test 24 = .ok (.iload_n 1, 1) := by decide +kernel
theorem dX5_test_25 : decode cX5_test 25 = .ok (.iload_n 2, 1) := by decide +kernel
theorem dX5_test_26 : decode cX5_test 26 = .ok (.invokevirtual 66, 3) := by decide +kernel
theorem dX5_test_29 : decode cX5_test 29 = .ok (.ireturn, 1) := by decide +kernel
theorem dX5_noTests_0 : decode cX5_noTests 0 = .ok (.aload_n 0, 1) := by decide +kernel
theorem dX5_noTests_1 : decode cX5_noTests 1 = .ok (.getfield 10, 3) := by decide +kernel
theorem dX5_noTests_4 : decode cX5_noTests 4 = .ok (.iload_n 1, 1) := by decide +kernel
theorem dX5_noTests_5 : decode cX5_noTests 5 = .ok (.invokevirtual 60, 3) := by decide +kernel
theorem dX5_noTests_8 : decode cX5_noTests 8 = .ok (.ifCond .eq 10, 3) := by decide +kernel
theorem dX5_noTests_11 : decode cX5_noTests 11 = .ok (.iload_n 2, 1) := by decide +kernel
theorem dX5_noTests_12 : decode cX5_noTests 12 = .ok (.invokestatic 63, 3) := by decide +kernel
theorem dX5_noTests_15 : decode cX5_noTests 15 = .ok (.ifCond .ne 5, 3) := by decide +kernel
theorem dX5_noTests_18 : decode cX5_noTests 18 = .ok (.iconst (-1), 1) := by decide +kernel
end
section
theorem dX5_noTests_19 : decode cX5_noTests 19 = .ok (.ireturn, 1) := by decide +kernel
theorem dX5_noTests_20 : decode cX5_noTests 20 = .ok (.aload_n 0, 1) := by decide +kernel
theorem dX5_noTests_21 : decode cX5_noTests 21 = .ok (.getfield 10, 3) := by decide +kernel
theorem dX5_noTests_24 : decode cX5_noTests 24 = .ok (.iload_n 1, 1) := by decide +kernel
theorem dX5_noTests_25 : decode cX5_noTests 25 = .ok (.iload_n 2, 1) := by decide +kernel
theorem dX5_noTests_26 : decode cX5_noTests 26 = .ok (.invokevirtual 70, 3) := by decide +kernel
theorem dX5_noTests_29 : decode cX5_noTests 29 = .ok (.ireturn, 1) := by decide +kernel
theorem dX5_bypass_0 : decode cX5_bypass 0 = .ok (.aload_n 0, 1) := by decide +kernel
theorem dX5_bypass_1 : decode cX5_bypass 1 = .ok (.getfield 10, 3) := by decide +kernel
theorem dX5_bypass_4 : decode cX5_bypass 4 = .ok (.iload_n 1, 1) := by decide +kernel
theorem dX5_bypass_5 : decode cX5_bypass 5 = .ok (.invokevirtual 60, 3) := by decide +kernel
theorem dX5_bypass_8 : decode cX5_bypass 8 = .ok (.ifCond .eq 11, 3) := by decide +kernel
theorem dX5_bypass_11 : decode cX5_bypass 11 = .ok (.iload_n 2, 1) := by decide +kernel
theorem dX5_bypass_12 : decode cX5_bypass 12 = .ok (.iload_n 3, 1) := by decide +kernel
theorem dX5_bypass_13 : decode cX5_bypass 13 = .ok (.invokestatic 73, 3) := by decide +kernel
theorem dX5_bypass_16 : decode cX5_bypass 16 = .ok (.ifCond .ne 5, 3) := by decide +kernel
theorem dX5_bypass_19 : decode cX5_bypass 19 = .ok (.iconst (-1), 1) := by decide +kernel
theorem dX5_bypass_20 : decode cX5_bypass 20 = .ok (.ireturn, 1) := by decide +kernel
theorem dX5_bypass_21 : decode cX5_bypass 21 = .ok (.aload_n 0, 1) := by decide +kernel
theorem dX5_bypass_22 : decode cX5_bypass 22 = .ok (.getfield 10, 3) := by decide +kernel
theorem dX5_bypass_25 : decode cX5_bypass 25 = .ok (.iload_n 1, 1) := by decide +kernel
theorem dX5_bypass_26 : decode cX5_bypass 26 = .ok (.iload_n 2, 1) := by decide +kernel
theorem dX5_bypass_27 : decode cX5_bypass 27 = .ok (.iload_n 3, 1) := by decide +kernel
theorem dX5_bypass_28 : decode cX5_bypass 28 = .ok (.invokevirtual 77, 3) := by decide +kernel
theorem dX5_bypass_31 : decode cX5_bypass 31 = .ok (.ireturn, 1) := by decide +kernel
theorem dX5_bypassed_0 : decode cX5_bypassed 0 = .ok (.aload_n 0, 1) := by decide +kernel
theorem dX5_bypassed_1 : decode cX5_bypassed 1 = .ok (.getfield 10, 3) := by decide +kernel
theorem dX5_bypassed_4 : decode cX5_bypassed 4 = .ok (.iload_n 1, 1) := by decide +kernel
theorem dX5_bypassed_5 : decode cX5_bypassed 5 = .ok (.invokevirtual 60, 3) := by decide +kernel
theorem dX5_bypassed_8 : decode cX5_bypassed 8 = .ok (.ifCond .eq 11, 3) := by decide +kernel
theorem dX5_bypassed_11 : decode cX5_bypassed 11 = .ok (.iload_n 2, 1) := by decide +kernel
theorem dX5_bypassed_12 : decode cX5_bypassed 12 = .ok (.iload_n 3, 1) := by decide +kernel
theorem dX5_bypassed_13 : decode cX5_bypassed 13 = .ok (.invokestatic 73, 3) := by decide +kernel
theorem dX5_bypassed_16 : decode cX5_bypassed 16 = .ok (.ifCond .ne 5, 3) := by decide +kernel
theorem dX5_bypassed_19 : decode cX5_bypassed 19 = .ok (.iconst (-1), 1) := by decide +kernel
theorem dX5_bypassed_20 : decode cX5_bypassed 20 = .ok (.ireturn, 1) := by decide +kernel
theorem dX5_bypassed_21 : decode cX5_bypassed 21 = .ok (.aload_n 0, 1) := by decide +kernel
theorem dX5_bypassed_22 : decode cX5_bypassed 22 = .ok (.getfield 10, 3) := by decide +kernel
theorem dX5_bypassed_25 : decode cX5_bypassed 25 = .ok (.iload_n 1, 1) := by decide +kernel
theorem dX5_bypassed_26 : decode cX5_bypassed 26 = .ok (.iload_n 2, 1) := by decide +kernel
theorem dX5_bypassed_27 : decode cX5_bypassed 27 = .ok (.iload_n 3, 1) := by decide +kernel
theorem dX5_bypassed_28 : decode cX5_bypassed 28 = .ok (.invokevirtual 80, 3) := by decide +kernel
theorem dX5_bypassed_31 : decode cX5_bypassed 31 = .ok (.ireturn, 1) := by decide +kernel
theorem dX5_group_0 : decode cX5_group 0 = .ok (.iload_n 1, 1) := by decide +kernel
theorem dX5_group_1 : decode cX5_group 1 = .ok (.invokestatic 52, 3) := by decide +kernel
theorem dX5_group_4 : decode cX5_group 4 = .ok (.ifCond .eq 22, 3) := by decide +kernel
theorem dX5_group_7 : decode cX5_group 7 = .ok (.aload_n 0, 1) := by decide +kernel
theorem dX5_group_8 : decode cX5_group 8 = .ok (.getfield 10, 3) := by decide +kernel
theorem dX5_group_11 : decode cX5_group 11 = .ok (.iload_n 2, 1) := by decide +kernel
theorem dX5_group_12 : decode cX5_group 12 = .ok (.invokevirtual 83, 3) := by decide +kernel
theorem dX5_group_15 : decode cX5_group 15 = .ok (.ifCond .eq 11, 3) := by decide +kernel
theorem dX5_group_18 : decode cX5_group 18 = .ok (.iload_n 2, 1) := by decide +kernel
theorem dX5_group_19 : decode cX5_group 19 = .ok (.invokestatic 86, 3) := by decide +kernel
theorem dX5_group_22 : decode cX5_group 22 = .ok (.iconst 2, 1) := by decide +kernel
theorem dX5_group_23 : decode cX5_group 23 = .ok (.if_icmp .ge 5, 3) := by decide +kernel
theorem dX5_group_26 : decode cX5_group 26 = .ok (.iconst (-1), 1) := by decide +kernel
theorem dX5_group_27 : decode cX5_group 27 = .ok (.ireturn, 1) := by decide +kernel
theorem dX5_group_28 : decode cX5_group 28 = .ok (.aload_n 0, 1) := by decide +kernel
theorem dX5_group_29 : decode cX5_group 29 = .ok (.getfield 19, 3) := by decide +kernel
theorem dX5_group_32 : decode cX5_group 32 = .ok (.iload_n 1, 1) := by decide +kernel
theorem dX5_group_33 : decode cX5_group 33 = .ok (.iload_n 2, 1) := by decide +kernel
theorem dX5_group_34 : decode cX5_group 34 = .ok (.invokevirtual 92, 3) := by decide +kernel
theorem dX5_group_37 : decode cX5_group 37 = .ok (.ireturn, 1) := by decide +kernel
theorem dX5_vote_0 : decode cX5_vote 0 = .ok (.iload_n 2, 1) := by decide +kernel
theorem dX5_vote_1 : decode cX5_vote 1 = .ok (.iconst 1, 1) := by decide +kernel
theorem dX5_vote_2 : decode cX5_vote 2 = .ok (.if_icmp .lt 18, 3) := by decide +kernel
theorem dX5_vote_5 : decode cX5_vote 5 = .ok (.iload_n 2, 1) := by decide +kernel
theorem dX5_vote_6 : decode cX5_vote 6 = .ok (.iconst 4, 1) := by decide +kernel
theorem dX5_vote_7 : decode cX5_vote 7 = .ok (.if_icmp .gt 13, 3) := by decide +kernel
theorem dX5_vote_10 : decode cX5_vote 10 = .ok (.iload_n 1, 1) := by decide +kernel
theorem dX5_vote_11 : decode cX5_vote 11 = .ok (.iconst 1, 1) := by decide +kernel
theorem dX5_vote_12 : decode cX5_vote 12 = .ok (.if_icmp .lt 8, 3) := by decide +kernel
theorem dX5_vote_15 : decode cX5_vote 15 = .ok (.iload_n 1, 1) := by decide +kernel
theorem dX5_vote_16 : decode cX5_vote 16 = .ok (.iload_n 2, 1) := by decide +kernel
theorem dX5_vote_17 : decode cX5_vote 17 = .ok (.if_icmp .le 5, 3) := by decide +kernel
theorem dX5_vote_20 : decode cX5_vote 20 = .ok (.iconst (-1), 1) := by decide +kernel
theorem dX5_vote_21 : decode cX5_vote 21 = .ok (.ireturn, 1) := by decide +kernel
theorem dX5_vote_22 : decode cX5_vote 22 = .ok (.aload_n 0, 1) := by decide +kernel
theorem dX5_vote_23 : decode cX5_vote 23 = .ok (.getfield 48, 3) := by decide +kernel
theorem dX5_vote_26 : decode cX5_vote 26 = .ok (.iconst 0, 1) := by decide +kernel
theorem dX5_vote_27 : decode cX5_vote 27 = .ok (.iload_n 3, 1) := by decide +kernel
theorem dX5_vote_28 : decode cX5_vote 28 = .ok (.iastore, 1) := by decide +kernel
theorem dX5_vote_29 : decode cX5_vote 29 = .ok (.aload_n 0, 1) := by decide +kernel
theorem dX5_vote_30 : decode cX5_vote 30 = .ok (.getfield 48, 3) := by decide +kernel
theorem dX5_vote_33 : decode cX5_vote 33 = .ok (.iconst 1, 1) := by decide +kernel
theorem dX5_vote_34 : decode cX5_vote 34 = .ok (.iload 4, 2) := by decide +kernel
theorem dX5_vote_36 : decode cX5_vote 36 = .ok (.iastore, 1) := by decide +kernel
theorem dX5_vote_37 : decode cX5_vote 37 = .ok (.aload_n 0, 1) := by decide +kernel
theorem dX5_vote_38 : decode cX5_vote 38 = .ok (.getfield 48, 3) := by decide +kernel
theorem dX5_vote_41 : decode cX5_vote 41 = .ok (.iconst 2, 1) := by decide +kernel
theorem dX5_vote_42 : decode cX5_vote 42 = .ok (.iload 5, 2) := by decide +kernel
theorem dX5_vote_44 : decode cX5_vote 44 = .ok (.iastore, 1) := by decide +kernel
theorem dX5_vote_45 : decode cX5_vote 45 = .ok (.aload_n 0, 1) := by decide +kernel
theorem dX5_vote_46 : decode cX5_vote 46 = .ok (.getfield 48, 3) := by decide +kernel
theorem dX5_vote_49 : decode cX5_vote 49 = .ok (.iconst 3, 1) := by decide +kernel
theorem dX5_vote_50 : decode cX5_vote 50 = .ok (.iload 6, 2) := by decide +kernel
theorem dX5_vote_52 : decode cX5_vote 52 = .ok (.iastore, 1) := by decide +kernel
theorem dX5_vote_53 : decode cX5_vote 53 = .ok (.iconst 0, 1) := by decide +kernel
theorem dX5_vote_54 : decode cX5_vote 54 = .ok (.istore 7, 2) := by decide +kernel
theorem dX5_vote_56 : decode cX5_vote 56 = .ok (.iload 7, 2) := by decide +kernel
theorem dX5_vote_58 : decode cX5_vote 58 = .ok (.iload_n 2, 1) := by decide +kernel
theorem dX5_vote_59 : decode cX5_vote 59 = .ok (.if_icmp .ge 25, 3) := by decide +kernel
theorem dX5_vote_62 : decode cX5_vote 62 = .ok (.aload_n 0, 1) := by decide +kernel
theorem dX5_vote_63 : decode cX5_vote 63 = .ok (.aload_n 0, 1) := by decide +kernel
theorem dX5_vote_64 : decode cX5_vote 64 = .ok (.getfield 48, 3) := by decide +kernel
theorem dX5_vote_67 : decode cX5_vote 67 = .ok (.iload 7, 2) := by decide +kernel
theorem dX5_vote_69 : decode cX5_vote 69 = .ok (.iaload, 1) := by decide +kernel
theorem dX5_vote_70 : decode cX5_vote 70 = .ok (.invokevirtual 94, 3) := by decide +kernel
theorem dX5_vote_73 : decode cX5_vote 73 = .ok (.ifCond .ne 5, 3) := by decide +kernel
theorem dX5_vote_76 : decode cX5_vote 76 = .ok (.iconst (-1), 1) := by decide +kernel
theorem dX5_vote_77 : decode cX5_vote 77 = .ok (.ireturn, 1) := by decide +kernel
theorem dX5_vote_78 : decode cX5_vote 78 = .ok (.iinc 7 1, 3) := by decide +kernel
theorem dX5_vote_81 : decode cX5_vote 81 = .ok (.goto (-25), 3) := by decide +kernel
theorem dX5_vote_84 : decode cX5_vote 84 = .ok (.aload_n 0, 1) := by decide +kernel
theorem dX5_vote_85 : decode cX5_vote 85 = .ok (.getfield 26, 3) := by decide +kernel
theorem dX5_vote_88 : decode cX5_vote 88 = .ok (.iload_n 1, 1) := by decide +kernel
theorem dX5_vote_89 : decode cX5_vote 89 = .ok (.iload_n 2, 1) := by decide +kernel
theorem dX5_vote_90 : decode cX5_vote 90 = .ok (.aload_n 0, 1) := by decide +kernel
theorem dX5_vote_91 : decode cX5_vote 91 = .ok (.getfield 48, 3) := by decide +kernel
theorem dX5_vote_94 : decode cX5_vote 94 = .ok (.invokevirtual 97, 3) := by decide +kernel
theorem dX5_vote_97 : decode cX5_vote 97 = .ok (.ireturn, 1) := by decide +kernel
theorem dX5_share_0 : decode cX5_share 0 = .ok (.aload_n 0, 1) := by decide +kernel
theorem dX5_share_1 : decode cX5_share 1 = .ok (.getfield 10, 3) := by decide +kernel
theorem dX5_share_4 : decode cX5_share 4 = .ok (.iload_n 1, 1) := by decide +kernel
theorem dX5_share_5 : decode cX5_share 5 = .ok (.invokevirtual 60, 3) := by decide +kernel
theorem dX5_share_8 : decode cX5_share 8 = .ok (.ifCond .eq 10, 3) := by decide +kernel
theorem dX5_share_11 : decode cX5_share 11 = .ok (.iload_n 2, 1) := by decide +kernel
theorem dX5_share_12 : decode cX5_share 12 = .ok (.invokestatic 63, 3) := by decide +kernel
theorem dX5_share_15 : decode cX5_share 15 = .ok (.ifCond .ne 5, 3) := by decide +kernel
theorem dX5_share_18 : decode cX5_share 18 = .ok (.iconst (-1), 1) := by decide +kernel
theorem dX5_share_19 : decode cX5_share 19 = .ok (.ireturn, 1) := by decide +kernel
theorem dX5_share_20 : decode cX5_share 20 = .ok (.aload_n 0, 1) := by decide +kernel
theorem dX5_share_21 : decode cX5_share 21 = .ok (.getfield 10, 3) := by decide +kernel
theorem dX5_share_24 : decode cX5_share 24 = .ok (.iload_n 1, 1) := by decide +kernel
theorem dX5_share_25 : decode cX5_share 25 = .ok (.iload_n 2, 1) := by decide +kernel
theorem dX5_share_26 : decode cX5_share 26 = .ok (.invokevirtual 100, 3) := by decide +kernel
theorem dX5_share_29 : decode cX5_share 29 = .ok (.ireturn, 1) := by decide +kernel
theorem dX5_below_0 : decode cX5_below 0 = .ok (.aload_n 0, 1) := by decide +kernel
theorem dX5_below_1 : decode cX5_below 1 = .ok (.getfield 26, 3) := by decide +kernel
theorem dX5_below_4 : decode cX5_below 4 = .ok (.iload_n 1, 1) := by decide +kernel
theorem dX5_below_5 : decode cX5_below 5 = .ok (.invokevirtual 103, 3) := by decide +kernel
theorem dX5_below_8 : decode cX5_below 8 = .ok (.ifCond .ne 5, 3) := by decide +kernel
theorem dX5_below_11 : decode cX5_below 11 = .ok (.iconst (-1), 1) := by decide +kernel
theorem dX5_below_12 : decode cX5_below 12 = .ok (.ireturn, 1) := by decide +kernel
theorem dX5_below_13 : decode cX5_below 13 = .ok (.iload_n 2, 1) := by decide +kernel
theorem dX5_below_14 : decode cX5_below 14 = .ok (.tableswitch 53 0 2 #[26, 35, 44], 26) := by decide +kernel
theorem dX5_below_40 : decode cX5_below 40 = .ok (.aload_n 0, 1) := by decide +kernel
theorem dX5_below_41 : decode cX5_below 41 = .ok (.getfield 26, 3) := by decide +kernel
theorem dX5_below_44 : decode cX5_below 44 = .ok (.iload_n 1, 1) := by decide +kernel
theorem dX5_below_45 : decode cX5_below 45 = .ok (.invokevirtual 104, 3) := by decide +kernel
theorem dX5_below_48 : decode cX5_below 48 = .ok (.ireturn, 1) := by decide +kernel
theorem dX5_below_49 : decode cX5_below 49 = .ok (.aload_n 0, 1) := by decide +kernel
theorem dX5_below_50 : decode cX5_below 50 = .ok (.getfield 35, 3) := by decide +kernel
theorem dX5_below_53 : decode cX5_below 53 = .ok (.iload_n 1, 1) := by decide +kernel
theorem dX5_below_54 : decode cX5_below 54 = .ok (.invokevirtual 107, 3) := by decide +kernel
theorem dX5_below_57 : decode cX5_below 57 = .ok (.ireturn, 1) := by decide +kernel
theorem dX5_below_58 : decode cX5_below 58 = .ok (.aload_n 0, 1) := by decide +kernel
theorem dX5_below_59 : decode cX5_below 59 = .ok (.getfield 35, 3) := by decide +kernel
theorem dX5_below_62 : decode cX5_below 62 = .ok (.iload_n 1, 1) := by decide +kernel
theorem dX5_below_63 : decode cX5_below 63 = .ok (.invokevirtual 110, 3) := by decide +kernel
theorem dX5_below_66 : decode cX5_below 66 = .ok (.ireturn, 1) := by decide +kernel
theorem dX5_below_67 : decode cX5_below 67 = .ok (.iconst (-1), 1) := by decide +kernel
theorem dX5_below_68 : decode cX5_below 68 = .ok (.ireturn, 1) := by decide +kernel
theorem dX5_shared_0 : decode cX5_shared 0 = .ok (.aload_n 0, 1) := by decide +kernel
theorem dX5_shared_1 : decode cX5_shared 1 = .ok (.getfield 26, 3) := by decide +kernel
theorem dX5_shared_4 : decode cX5_shared 4 = .ok (.iload_n 1, 1) := by decide +kernel
theorem dX5_shared_5 : decode cX5_shared 5 = .ok (.invokevirtual 103, 3) := by decide +kernel
theorem dX5_shared_8 : decode cX5_shared 8 = .ok (.ifCond .eq 14, 3) := by decide +kernel
theorem dX5_shared_11 : decode cX5_shared 11 = .ok (.aload_n 0, 1) := by decide +kernel
theorem dX5_shared_12 : decode cX5_shared 12 = .ok (.getfield 26, 3) := by decide +kernel
theorem dX5_shared_15 : decode cX5_shared 15 = .ok (.iload_n 2, 1) := by decide +kernel
theorem dX5_shared_16 : decode cX5_shared 16 = .ok (.invokevirtual 103, 3) := by decide +kernel
theorem dX5_shared_19 : decode cX5_shared 19 = .ok (.ifCond .ne 5, 3) := by decide +kernel
theorem dX5_shared_22 : decode cX5_shared 22 = .ok (.iconst (-1), 1) := by decide +kernel
theorem dX5_shared_23 : decode cX5_shared 23 = .ok (.ireturn, 1) := by decide +kernel
theorem dX5_shared_24 : decode cX5_shared 24 = .ok (.aload_n 0, 1) := by decide +kernel
theorem dX5_shared_25 : decode cX5_shared 25 = .ok (.getfield 35, 3) := by decide +kernel
theorem dX5_shared_28 : decode cX5_shared 28 = .ok (.iload_n 1, 1) := by decide +kernel
theorem dX5_shared_29 : decode cX5_shared 29 = .ok (.invokevirtual 107, 3) := by decide +kernel
theorem dX5_shared_32 : decode cX5_shared 32 = .ok (.aload_n 0, 1) := by decide +kernel
theorem dX5_shared_33 : decode cX5_shared 33 = .ok (.getfield 35, 3) := by decide +kernel
theorem dX5_shared_36 : decode cX5_shared 36 = .ok (.iload_n 2, 1) := by decide +kernel
theorem dX5_shared_37 : decode cX5_shared 37 = .ok (.invokevirtual 107, 3) := by decide +kernel
theorem dX5_shared_40 : decode cX5_shared 40 = .ok (.iand, 1) := by decide +kernel
theorem dX5_shared_41 : decode cX5_shared 41 = .ok (.istore_n 3, 1) := by decide +kernel
theorem dX5_shared_42 : decode cX5_shared 42 = .ok (.aload_n 0, 1) := by decide +kernel
theorem dX5_shared_43 : decode cX5_shared 43 = .ok (.getfield 26, 3) := by decide +kernel
theorem dX5_shared_46 : decode cX5_shared 46 = .ok (.iload_n 1, 1) := by decide +kernel
theorem dX5_shared_47 : decode cX5_shared 47 = .ok (.invokevirtual 104, 3) := by decide +kernel
theorem dX5_shared_50 : decode cX5_shared 50 = .ok (.aload_n 0, 1) := by decide +kernel
theorem dX5_shared_51 : decode cX5_shared 51 = .ok (.getfield 26, 3) := by decide +kernel
theorem dX5_shared_54 : decode cX5_shared 54 = .ok (.iload_n 2, 1) := by decide +kernel
theorem dX5_shared_55 : decode cX5_shared 55 = .ok (.invokevirtual 104, 3) := by decide +kernel
theorem dX5_shared_58 : decode cX5_shared 58 = .ok (.iand, 1) := by decide +kernel
theorem dX5_shared_59 : decode cX5_shared 59 = .ok (.iload_n 3, 1) := by decide +kernel
theorem dX5_shared_60 : decode cX5_shared 60 = .ok (.bipush 12, 2) := by decide +kernel
theorem dX5_shared_62 : decode cX5_shared 62 = .ok (.ishl, 1) := by decide +kernel
theorem dX5_shared_63 : decode cX5_shared 63 = .ok (.ior, 1) := by decide +kernel
theorem dX5_shared_64 : decode cX5_shared 64 = .ok (.ireturn, 1) := by decide +kernel
theorem dX5_chance_0 : decode cX5_chance 0 = .ok (.aload_n 0, 1) := by decide +kernel
theorem dX5_chance_1 : decode cX5_chance 1 = .ok (.getfield 26, 3) := by decide +kernel
theorem dX5_chance_4 : decode cX5_chance 4 = .ok (.iload_n 1, 1) := by decide +kernel
theorem dX5_chance_5 : decode cX5_chance 5 = .ok (.invokevirtual 103, 3) := by decide +kernel
theorem dX5_chance_8 : decode cX5_chance 8 = .ok (.ifCond .eq 10, 3) := by decide +kernel
theorem dX5_chance_11 : decode cX5_chance 11 = .ok (.iload_n 2, 1) := by decide +kernel
theorem dX5_chance_12 : decode cX5_chance 12 = .ok (.invokestatic 63, 3) := by decide +kernel
theorem dX5_chance_15 : decode cX5_chance 15 = .ok (.ifCond .ne 7, 3) := by decide +kernel
theorem dX5_chance_18 : decode cX5_chance 18 = .ok (.ldc2_w 113, 3) := by decide +kernel
theorem dX5_chance_21 : decode cX5_chance 21 = .ok (.lreturn, 1) := by decide +kernel
theorem dX5_chance_22 : decode cX5_chance 22 = .ok (.aload_n 0, 1) := by decide +kernel
theorem dX5_chance_23 : decode cX5_chance 23 = .ok (.getfield 35, 3) := by decide +kernel
theorem dX5_chance_26 : decode cX5_chance 26 = .ok (.iload_n 1, 1) := by decide +kernel
theorem dX5_chance_27 : decode cX5_chance 27 = .ok (.invokevirtual 115, 3) := by decide +kernel
theorem dX5_chance_30 : decode cX5_chance 30 = .ok (.ifCond .eq 7, 3) := by decide +kernel
theorem dX5_chance_33 : decode cX5_chance 33 = .ok (.ldc2_w 118, 3) := by decide +kernel
theorem dX5_chance_36 : decode cX5_chance 36 = .ok (.lreturn, 1) := by decide +kernel
theorem dX5_chance_37 : decode cX5_chance 37 = .ok (.aload_n 0, 1) := by decide +kernel
theorem dX5_chance_38 : decode cX5_chance 38 = .ok (.getfield 35, 3) := by decide +kernel
theorem dX5_chance_41 : decode cX5_chance 41 = .ok (.iload_n 1, 1) := by decide +kernel
theorem dX5_chance_42 : decode cX5_chance 42 = .ok (.invokevirtual 120, 3) := by decide +kernel
theorem dX5_chance_45 : decode cX5_chance 45 = .ok (.aload_n 0, 1) := by decide +kernel
theorem dX5_chance_46 : decode cX5_chance 46 = .ok (.getfield 35, 3) := by decide +kernel
theorem dX5_chance_49 : decode cX5_chance 49 = .ok (.iload_n 2, 1) := by decide +kernel
theorem dX5_chance_50 : decode cX5_chance 50 = .ok (.invokevirtual 124, 3) := by decide +kernel
theorem dX5_chance_53 : decode cX5_chance 53 = .ok (.lreturn, 1) := by decide +kernel
theorem dX5_over_0 : decode cX5_over 0 = .ok (.aload_n 0, 1) := by decide +kernel
theorem dX5_over_1 : decode cX5_over 1 = .ok (.getfield 26, 3) := by decide +kernel
theorem dX5_over_4 : decode cX5_over 4 = .ok (.iload_n 1, 1) := by decide +kernel
theorem dX5_over_5 : decode cX5_over 5 = .ok (.invokevirtual 103, 3) := by decide +kernel
theorem dX5_over_8 : decode cX5_over 8 = .ok (.ifCond .eq 11, 3) := by decide +kernel
theorem dX5_over_11 : decode cX5_over 11 = .ok (.iload_n 2, 1) := by decide +kernel
theorem dX5_over_12 : decode cX5_over 12 = .ok (.iload_n 3, 1) := by decide +kernel
theorem dX5_over_13 : decode cX5_over 13 = .ok (.invokestatic 128, 3) := by decide +kernel
theorem dX5_over_16 : decode cX5_over 16 = .ok (.ifCond .ne 7, 3) := by decide +kernel
theorem dX5_over_19 : decode cX5_over 19 = .ok (.ldc2_w 113, 3) := by decide +kernel
theorem dX5_over_22 : decode cX5_over 22 = .ok (.lreturn, 1) := by decide +kernel
theorem dX5_over_23 : decode cX5_over 23 = .ok (.aload_n 0, 1) := by decide +kernel
theorem dX5_over_24 : decode cX5_over 24 = .ok (.getfield 35, 3) := by decide +kernel
theorem dX5_over_27 : decode cX5_over 27 = .ok (.iload_n 1, 1) := by decide +kernel
theorem dX5_over_28 : decode cX5_over 28 = .ok (.invokevirtual 115, 3) := by decide +kernel
theorem dX5_over_31 : decode cX5_over 31 = .ok (.ifCond .eq 7, 3) := by decide +kernel
theorem dX5_over_34 : decode cX5_over 34 = .ok (.ldc2_w 118, 3) := by decide +kernel
theorem dX5_over_37 : decode cX5_over 37 = .ok (.lreturn, 1) := by decide +kernel
theorem dX5_over_38 : decode cX5_over 38 = .ok (.aload_n 0, 1) := by decide +kernel
theorem dX5_over_39 : decode cX5_over 39 = .ok (.getfield 35, 3) := by decide +kernel
theorem dX5_over_42 : decode cX5_over 42 = .ok (.iload_n 1, 1) := by decide +kernel
theorem dX5_over_43 : decode cX5_over 43 = .ok (.invokevirtual 120, 3) := by decide +kernel
theorem dX5_over_46 : decode cX5_over 46 = .ok (.lconst 0, 1) := by decide +kernel
theorem dX5_over_47 : decode cX5_over 47 = .ok (.lstore 4, 2) := by decide +kernel
theorem dX5_over_49 : decode cX5_over 49 = .ok (.iload_n 2, 1) := by decide +kernel
theorem dX5_over_50 : decode cX5_over 50 = .ok (.istore 6, 2) := by decide +kernel
theorem dX5_over_52 : decode cX5_over 52 = .ok (.iload 6, 2) := by decide +kernel
theorem dX5_over_54 : decode cX5_over 54 = .ok (.iload_n 3, 1) := by decide +kernel
theorem dX5_over_55 : decode cX5_over 55 = .ok (.if_icmp .gt 23, 3) := by decide +kernel
theorem dX5_over_58 : decode cX5_over 58 = .ok (.lload 4, 2) := by decide +kernel
theorem dX5_over_60 : decode cX5_over 60 = .ok (.aload_n 0, 1) := by decide +kernel
theorem dX5_over_61 : decode cX5_over 61 = .ok (.getfield 35, 3) := by decide +kernel
theorem dX5_over_64 : decode cX5_over 64 = .ok (.iload 6, 2) := by decide +kernel
theorem dX5_over_66 : decode cX5_over 66 = .ok (.invokevirtual 124, 3) := by decide +kernel
theorem dX5_over_69 : decode cX5_over 69 = .ok (.ladd, 1) := by decide +kernel
theorem dX5_over_70 : decode cX5_over 70 = .ok (.lstore 4, 2) := by decide +kernel
theorem dX5_over_72 : decode cX5_over 72 = .ok (.iinc 6 1, 3) := by decide +kernel
theorem dX5_over_75 : decode cX5_over 75 = .ok (.goto (-23), 3) := by decide +kernel
theorem dX5_over_78 : decode cX5_over 78 = .ok (.lload 4, 2) := by decide +kernel
theorem dX5_over_80 : decode cX5_over 80 = .ok (.lreturn, 1) := by decide +kernel
theorem dX5_broken_0 : decode cX5_broken 0 = .ok (.aload_n 0, 1) := by decide +kernel
theorem dX5_broken_1 : decode cX5_broken 1 = .ok (.getfield 26, 3) := by decide +kernel
theorem dX5_broken_4 : decode cX5_broken 4 = .ok (.iload_n 1, 1) := by decide +kernel
theorem dX5_broken_5 : decode cX5_broken 5 = .ok (.invokevirtual 103, 3) := by decide +kernel
theorem dX5_broken_8 : decode cX5_broken 8 = .ok (.ifCond .eq 27, 3) := by decide +kernel
theorem dX5_broken_11 : decode cX5_broken 11 = .ok (.iload_n 2, 1) := by decide +kernel
theorem dX5_broken_12 : decode cX5_broken 12 = .ok (.iload_n 3, 1) := by decide +kernel
theorem dX5_broken_13 : decode cX5_broken 13 = .ok (.invokestatic 128, 3) := by decide +kernel
theorem dX5_broken_16 : decode cX5_broken 16 = .ok (.ifCond .eq 19, 3) := by decide +kernel
theorem dX5_broken_19 : decode cX5_broken 19 = .ok (.lload 4, 2) := by decide +kernel
theorem dX5_broken_21 : decode cX5_broken 21 = .ok (.lconst 0, 1) := by decide +kernel
theorem dX5_broken_22 : decode cX5_broken 22 = .ok (.lcmp, 1) := by decide +kernel
theorem dX5_broken_23 : decode cX5_broken 23 = .ok (.ifCond .lt 12, 3) := by decide +kernel
theorem dX5_broken_26 : decode cX5_broken 26 = .ok (.lload 4, 2) := by decide +kernel
theorem dX5_broken_28 : decode cX5_broken 28 = .ok (.ldc2_w 131, 3) := by decide +kernel
theorem dX5_broken_31 : decode cX5_broken 31 = .ok (.lcmp, 1) := by decide +kernel
theorem dX5_broken_32 : decode cX5_broken 32 = .ok (.ifCond .le 5, 3) := by decide +kernel
theorem dX5_broken_35 : decode cX5_broken 35 = .ok (.iconst (-1), 1) := by decide +kernel
theorem dX5_broken_36 : decode cX5_broken 36 = .ok (.ireturn, 1) := by decide +kernel
theorem dX5_broken_37 : decode cX5_broken 37 = .ok (.aload_n 0, 1) := by decide +kernel
theorem dX5_broken_38 : decode cX5_broken 38 = .ok (.getfield 35, 3) := by decide +kernel
theorem dX5_broken_41 : decode cX5_broken 41 = .ok (.iload_n 1, 1) := by decide +kernel
theorem dX5_broken_42 : decode cX5_broken 42 = .ok (.invokevirtual 115, 3) := by decide +kernel
theorem dX5_broken_45 : decode cX5_broken 45 = .ok (.ifCond .eq 6, 3) := by decide +kernel
theorem dX5_broken_48 : decode cX5_broken 48 = .ok (.bipush (-2), 2) := by decide +kernel
theorem dX5_broken_50 : decode cX5_broken 50 = .ok (.ireturn, 1) := by decide +kernel
theorem dX5_broken_51 : decode cX5_broken 51 = .ok (.aload_n 0, 1) := by decide +kernel
theorem dX5_broken_52 : decode cX5_broken 52 = .ok (.getfield 35, 3) := by decide +kernel
theorem dX5_broken_55 : decode cX5_broken 55 = .ok (.iload_n 1, 1) := by decide +kernel
theorem dX5_broken_56 : decode cX5_broken 56 = .ok (.invokevirtual 120, 3) := by decide +kernel
theorem dX5_broken_59 : decode cX5_broken 59 = .ok (.iload_n 2, 1) := by decide +kernel
theorem dX5_broken_60 : decode cX5_broken 60 = .ok (.istore 6, 2) := by decide +kernel
theorem dX5_broken_62 : decode cX5_broken 62 = .ok (.iload 6, 2) := by decide +kernel
theorem dX5_broken_64 : decode cX5_broken 64 = .ok (.iload_n 3, 1) := by decide +kernel
theorem dX5_broken_65 : decode cX5_broken 65 = .ok (.if_icmp .gt 27, 3) := by decide +kernel
theorem dX5_broken_68 : decode cX5_broken 68 = .ok (.aload_n 0, 1) := by decide +kernel
theorem dX5_broken_69 : decode cX5_broken 69 = .ok (.getfield 35, 3) := by decide +kernel
theorem dX5_broken_72 : decode cX5_broken 72 = .ok (.iload 6, 2) := by decide +kernel
theorem dX5_broken_74 : decode cX5_broken 74 = .ok (.invokevirtual 124, 3) := by decide +kernel
theorem dX5_broken_77 : decode cX5_broken 77 = .ok (.lload 4, 2) := by decide +kernel
theorem dX5_broken_79 : decode cX5_broken 79 = .ok (.lcmp, 1) := by decide +kernel
theorem dX5_broken_80 : decode cX5_broken 80 = .ok (.ifCond .le 6, 3) := by decide +kernel
theorem dX5_broken_83 : decode cX5_broken 83 = .ok (.iload 6, 2) := by decide +kernel
theorem dX5_broken_85 : decode cX5_broken 85 = .ok (.ireturn, 1) := by decide +kernel
theorem dX5_broken_86 : decode cX5_broken 86 = .ok (.iinc 6 1, 3) := by decide +kernel
theorem dX5_broken_89 : decode cX5_broken 89 = .ok (.goto (-27), 3) := by decide +kernel
theorem dX5_broken_92 : decode cX5_broken 92 = .ok (.bipush (-4), 2) := by decide +kernel
theorem dX5_broken_94 : decode cX5_broken 94 = .ok (.ireturn, 1) := by decide +kernel
theorem dX5_nothing_0 : decode cX5_nothing 0 = .ok (.aload_n 0, 1) := by decide +kernel
theorem dX5_nothing_1 : decode cX5_nothing 1 = .ok (.getfield 26, 3) := by decide +kernel
theorem dX5_nothing_4 : decode cX5_nothing 4 = .ok (.iload_n 1, 1) := by decide +kernel
theorem dX5_nothing_5 : decode cX5_nothing 5 = .ok (.invokevirtual 103, 3) := by decide +kernel
theorem dX5_nothing_8 : decode cX5_nothing 8 = .ok (.ifCond .ne 7, 3) := by decide +kernel
theorem dX5_nothing_11 : decode cX5_nothing 11 = .ok (.ldc2_w 113, 3) := by decide +kernel
theorem dX5_nothing_14 : decode cX5_nothing 14 = .ok (.lreturn, 1) := by decide +kernel
theorem dX5_nothing_15 : decode cX5_nothing 15 = .ok (.aload_n 0, 1) := by decide +kernel
theorem dX5_nothing_16 : decode cX5_nothing 16 = .ok (.getfield 26, 3) := by decide +kernel
theorem dX5_nothing_19 : decode cX5_nothing 19 = .ok (.iload_n 1, 1) := by decide +kernel
theorem dX5_nothing_20 : decode cX5_nothing 20 = .ok (.invokevirtual 133, 3) := by decide +kernel
theorem dX5_nothing_23 : decode cX5_nothing 23 = .ok (.bipush 8, 2) := by decide +kernel
theorem dX5_nothing_25 : decode cX5_nothing 25 = .ok (.if_icmp .le 7, 3) := by decide +kernel
theorem dX5_nothing_28 : decode cX5_nothing 28 = .ok (.ldc2_w 118, 3) := by decide +kernel
theorem dX5_nothing_31 : decode cX5_nothing 31 = .ok (.lreturn, 1) := by decide +kernel
theorem dX5_nothing_32 : decode cX5_nothing 32 = .ok (.aload_n 0, 1) := by decide +kernel
theorem dX5_nothing_33 : decode cX5_nothing 33 = .ok (.getfield 35, 3) := by decide +kernel
theorem dX5_nothing_36 : decode cX5_nothing 36 = .ok (.iload_n 1, 1) := by decide +kernel
theorem dX5_nothing_37 : decode cX5_nothing 37 = .ok (.invokevirtual 136, 3) := by decide +kernel
theorem dX5_nothing_40 : decode cX5_nothing 40 = .ok (.lreturn, 1) := by decide +kernel
theorem dX5_matters_0 : decode cX5_matters 0 = .ok (.aload_n 0, 1) := by decide +kernel
theorem dX5_matters_1 : decode cX5_matters 1 = .ok (.getfield 26, 3) := by decide +kernel
theorem dX5_matters_4 : decode cX5_matters 4 = .ok (.iload_n 1, 1) := by decide +kernel
theorem dX5_matters_5 : decode cX5_matters 5 = .ok (.invokevirtual 103, 3) := by decide +kernel
theorem dX5_matters_8 : decode cX5_matters 8 = .ok (.ifCond .eq 21, 3) := by decide +kernel
theorem dX5_matters_11 : decode cX5_matters 11 = .ok (.aload_n 0, 1) := by decide +kernel
theorem dX5_matters_12 : decode cX5_matters 12 = .ok (.getfield 10, 3) := by decide +kernel
theorem dX5_matters_15 : decode cX5_matters 15 = .ok (.iload_n 2, 1) := by decide +kernel
theorem dX5_matters_16 : decode cX5_matters 16 = .ok (.invokevirtual 60, 3) := by decide +kernel
theorem dX5_matters_19 : decode cX5_matters 19 = .ok (.ifCond .eq 10, 3) := by decide +kernel
theorem dX5_matters_22 : decode cX5_matters 22 = .ok (.iload_n 3, 1) := by decide +kernel
theorem dX5_matters_23 : decode cX5_matters 23 = .ok (.invokestatic 63, 3) := by decide +kernel
theorem dX5_matters_26 : decode cX5_matters 26 = .ok (.ifCond .ne 7, 3) := by decide +kernel
theorem dX5_matters_29 : decode cX5_matters 29 = .ok (.ldc2_w 113, 3) := by decide +kernel
theorem dX5_matters_32 : decode cX5_matters 32 = .ok (.lreturn, 1) := by decide +kernel
theorem dX5_matters_33 : decode cX5_matters 33 = .ok (.aload_n 0, 1) := by decide +kernel
theorem dX5_matters_34 : decode cX5_matters 34 = .ok (.getfield 35, 3) := by decide +kernel
theorem dX5_matters_37 : decode cX5_matters 37 = .ok (.iload_n 1, 1) := by decide +kernel
theorem dX5_matters_38 : decode cX5_matters 38 = .ok (.invokevirtual 115, 3) := by decide +kernel
theorem dX5_matters_41 : decode cX5_matters 41 = .ok (.ifCond .eq 7, 3) := by decide +kernel
theorem dX5_matters_44 : decode cX5_matters 44 = .ok (.ldc2_w 118, 3) := by decide +kernel
theorem dX5_matters_47 : decode cX5_matters 47 = .ok (.lreturn, 1) := by decide +kernel
theorem dX5_matters_48 : decode cX5_matters 48 = .ok (.aload_n 0, 1) := by decide +kernel
theorem dX5_matters_49 : decode cX5_matters 49 = .ok (.getfield 35, 3) := by decide +kernel
theorem dX5_matters_52 : decode cX5_matters 52 = .ok (.iload_n 1, 1) := by decide +kernel
theorem dX5_matters_53 : decode cX5_matters 53 = .ok (.invokevirtual 120, 3) := by decide +kernel
theorem dX5_matters_56 : decode cX5_matters 56 = .ok (.aload_n 0, 1) := by decide +kernel
theorem dX5_matters_57 : decode cX5_matters 57 = .ok (.getfield 35, 3) := by decide +kernel
theorem dX5_matters_60 : decode cX5_matters 60 = .ok (.iload_n 2, 1) := by decide +kernel
theorem dX5_matters_61 : decode cX5_matters 61 = .ok (.iload_n 3, 1) := by decide +kernel
theorem dX5_matters_62 : decode cX5_matters 62 = .ok (.invokevirtual 139, 3) := by decide +kernel
theorem dX5_matters_65 : decode cX5_matters 65 = .ok (.lreturn, 1) := by decide +kernel
theorem dX5_most_0 : decode cX5_most 0 = .ok (.aload_n 0, 1) := by decide +kernel
theorem dX5_most_1 : decode cX5_most 1 = .ok (.getfield 26, 3) := by decide +kernel
theorem dX5_most_4 : decode cX5_most 4 = .ok (.iload_n 1, 1) := by decide +kernel
theorem dX5_most_5 : decode cX5_most 5 = .ok (.invokevirtual 103, 3) := by decide +kernel
theorem dX5_most_8 : decode cX5_most 8 = .ok (.ifCond .eq 10, 3) := by decide +kernel
theorem dX5_most_11 : decode cX5_most 11 = .ok (.iload_n 2, 1) := by decide +kernel
theorem dX5_most_12 : decode cX5_most 12 = .ok (.invokestatic 63, 3) := by decide +kernel
theorem dX5_most_15 : decode cX5_most 15 = .ok (.ifCond .ne 5, 3) := by decide +kernel
theorem dX5_most_18 : decode cX5_most 18 = .ok (.iconst (-1), 1) := by decide +kernel
theorem dX5_most_19 : decode cX5_most 19 = .ok (.ireturn, 1) := by decide +kernel
theorem dX5_most_20 : decode cX5_most 20 = .ok (.aload_n 0, 1) := by decide +kernel
theorem dX5_most_21 : decode cX5_most 21 = .ok (.getfield 35, 3) := by decide +kernel
theorem dX5_most_24 : decode cX5_most 24 = .ok (.iload_n 1, 1) := by decide +kernel
theorem dX5_most_25 : decode cX5_most 25 = .ok (.invokevirtual 115, 3) := by decide +kernel
theorem dX5_most_28 : decode cX5_most 28 = .ok (.ifCond .eq 6, 3) := by decide +kernel
theorem dX5_most_31 : decode cX5_most 31 = .ok (.bipush (-2), 2) := by decide +kernel
theorem dX5_most_33 : decode cX5_most 33 = .ok (.ireturn, 1) := by decide +kernel
theorem dX5_most_34 : decode cX5_most 34 = .ok (.aload_n 0, 1) := by decide +kernel
theorem dX5_most_35 : decode cX5_most 35 = .ok (.getfield 35, 3) := by decide +kernel
theorem dX5_most_38 : decode cX5_most 38 = .ok (.iload_n 1, 1) := by decide +kernel
theorem dX5_most_39 : decode cX5_most 39 = .ok (.invokevirtual 120, 3) := by decide +kernel
theorem dX5_most_42 : decode cX5_most 42 = .ok (.aload_n 0, 1) := by decide +kernel
theorem dX5_most_43 : decode cX5_most 43 = .ok (.getfield 35, 3) := by decide +kernel
theorem dX5_most_46 : decode cX5_most 46 = .ok (.iload_n 2, 1) := by decide +kernel
theorem dX5_most_47 : decode cX5_most 47 = .ok (.invokevirtual 143, 3) := by decide +kernel
theorem dX5_most_50 : decode cX5_most 50 = .ok (.ireturn, 1) := by decide +kernel
theorem dX5_cost_0 : decode cX5_cost 0 = .ok (.aload_n 0, 1) := by decide +kernel
theorem dX5_cost_1 : decode cX5_cost 1 = .ok (.getfield 10, 3) := by decide +kernel
theorem dX5_cost_4 : decode cX5_cost 4 = .ok (.iload_n 1, 1) := by decide +kernel
theorem dX5_cost_5 : decode cX5_cost 5 = .ok (.invokevirtual 60, 3) := by decide +kernel
theorem dX5_cost_8 : decode cX5_cost 8 = .ok (.ifCond .eq 14, 3) := by decide +kernel
theorem dX5_cost_11 : decode cX5_cost 11 = .ok (.iload_n 2, 1) := by decide +kernel
theorem dX5_cost_12 : decode cX5_cost 12 = .ok (.ifCond .lt 10, 3) := by decide +kernel
theorem dX5_cost_15 : decode cX5_cost 15 = .ok (.iload_n 2, 1) := by decide +kernel
theorem dX5_cost_16 : decode cX5_cost 16 = .ok (.sipush 1000, 3) := by decide +kernel
theorem dX5_cost_19 : decode cX5_cost 19 = .ok (.if_icmp .le 5, 3) := by decide +kernel
theorem dX5_cost_22 : decode cX5_cost 22 = .ok (.iconst (-1), 1) := by decide +kernel
theorem dX5_cost_23 : decode cX5_cost 23 = .ok (.ireturn, 1) := by decide +kernel
theorem dX5_cost_24 : decode cX5_cost 24 = .ok (.aload_n 0, 1) := by decide +kernel
theorem dX5_cost_25 : decode cX5_cost 25 = .ok (.getfield 10, 3) := by decide +kernel
theorem dX5_cost_28 : decode cX5_cost 28 = .ok (.iload_n 1, 1) := by decide +kernel
theorem dX5_cost_29 : decode cX5_cost 29 = .ok (.iload_n 2, 1) := by decide +kernel
theorem dX5_cost_30 : decode cX5_cost 30 = .ok (.invokevirtual 146, 3) := by decide +kernel
theorem dX5_cost_33 : decode cX5_cost 33 = .ok (.ireturn, 1) := by decide +kernel
theorem dX5_plan_0 : decode cX5_plan 0 = .ok (.aload_n 0, 1) := by decide +kernel
theorem dX5_plan_1 : decode cX5_plan 1 = .ok (.getfield 26, 3) := by decide +kernel
theorem dX5_plan_4 : decode cX5_plan 4 = .ok (.iload_n 1, 1) := by decide +kernel
theorem dX5_plan_5 : decode cX5_plan 5 = .ok (.invokevirtual 103, 3) := by decide +kernel
theorem dX5_plan_8 : decode cX5_plan 8 = .ok (.ifCond .eq 25, 3) := by decide +kernel
theorem dX5_plan_11 : decode cX5_plan 11 = .ok (.iload_n 2, 1) := by decide +kernel
theorem dX5_plan_12 : decode cX5_plan 12 = .ok (.invokestatic 149, 3) := by decide +kernel
theorem dX5_plan_15 : decode cX5_plan 15 = .ok (.ifCond .eq 18, 3) := by decide +kernel
theorem dX5_plan_18 : decode cX5_plan 18 = .ok (.iload_n 3, 1) := by decide +kernel
theorem dX5_plan_19 : decode cX5_plan 19 = .ok (.invokestatic 149, 3) := by decide +kernel
theorem dX5_plan_22 : decode cX5_plan 22 = .ok (.ifCond .eq 11, 3) := by decide +kernel
theorem dX5_plan_25 : decode cX5_plan 25 = .ok (.iload 4, 2) := by decide +kernel
theorem dX5_plan_27 : decode cX5_plan 27 = .ok (.invokestatic 149, 3) := by decide +kernel
theorem dX5_plan_30 : decode cX5_plan 30 = .ok (.ifCond .ne 5, 3) := by decide +kernel
theorem dX5_plan_33 : decode cX5_plan 33 = .ok (.iconst (-1), 1) := by decide +kernel
theorem dX5_plan_34 : decode cX5_plan 34 = .ok (.ireturn, 1) := by decide +kernel
theorem dX5_plan_35 : decode cX5_plan 35 = .ok (.lload 5, 2) := by decide +kernel
theorem dX5_plan_37 : decode cX5_plan 37 = .ok (.lconst 0, 1) := by decide +kernel
theorem dX5_plan_38 : decode cX5_plan 38 = .ok (.lcmp, 1) := by decide +kernel
theorem dX5_plan_39 : decode cX5_plan 39 = .ok (.ifCond .lt 23, 3) := by decide +kernel
theorem dX5_plan_42 : decode cX5_plan 42 = .ok (.lload 5, 2) := by decide +kernel
theorem dX5_plan_44 : decode cX5_plan 44 = .ok (.ldc2_w 152, 3) := by decide +kernel
theorem dX5_plan_47 : decode cX5_plan 47 = .ok (.lcmp, 1) := by decide +kernel
theorem dX5_plan_48 : decode cX5_plan 48 = .ok (.ifCond .gt 14, 3) := by decide +kernel
theorem dX5_plan_51 : decode cX5_plan 51 = .ok (.iload 7, 2) := by decide +kernel
theorem dX5_plan_53 : decode cX5_plan 53 = .ok (.ifCond .lt 9, 3) := by decide +kernel
theorem dX5_plan_56 : decode cX5_plan 56 = .ok (.iload 7, 2) := by decide +kernel
theorem dX5_plan_58 : decode cX5_plan 58 = .ok (.iconst 1, 1) := by decide +kernel
theorem dX5_plan_59 : decode cX5_plan 59 = .ok (.if_icmp .le 5, 3) := by decide +kernel
theorem dX5_plan_62 : decode cX5_plan 62 = .ok (.iconst (-1), 1) := by decide +kernel
theorem dX5_plan_63 : decode cX5_plan 63 = .ok (.ireturn, 1) := by decide +kernel
theorem dX5_plan_64 : decode cX5_plan 64 = .ok (.aload_n 0, 1) := by decide +kernel
theorem dX5_plan_65 : decode cX5_plan 65 = .ok (.getfield 26, 3) := by decide +kernel
theorem dX5_plan_68 : decode cX5_plan 68 = .ok (.iload_n 1, 1) := by decide +kernel
theorem dX5_plan_69 : decode cX5_plan 69 = .ok (.invokevirtual 133, 3) := by decide +kernel
theorem dX5_plan_72 : decode cX5_plan 72 = .ok (.iconst 3, 1) := by decide +kernel
theorem dX5_plan_73 : decode cX5_plan 73 = .ok (.if_icmp .gt 14, 3) := by decide +kernel
theorem dX5_plan_76 : decode cX5_plan 76 = .ok (.aload_n 0, 1) := by decide +kernel
theorem dX5_plan_77 : decode cX5_plan 77 = .ok (.getfield 35, 3) := by decide +kernel
theorem dX5_plan_80 : decode cX5_plan 80 = .ok (.iload_n 1, 1) := by decide +kernel
theorem dX5_plan_81 : decode cX5_plan 81 = .ok (.invokevirtual 115, 3) := by decide +kernel
theorem dX5_plan_84 : decode cX5_plan 84 = .ok (.ifCond .eq 6, 3) := by decide +kernel
theorem dX5_plan_87 : decode cX5_plan 87 = .ok (.bipush (-2), 2) := by decide +kernel
theorem dX5_plan_89 : decode cX5_plan 89 = .ok (.ireturn, 1) := by decide +kernel
theorem dX5_plan_90 : decode cX5_plan 90 = .ok (.aload_n 0, 1) := by decide +kernel
theorem dX5_plan_91 : decode cX5_plan 91 = .ok (.getfield 44, 3) := by decide +kernel
theorem dX5_plan_94 : decode cX5_plan 94 = .ok (.iload_n 2, 1) := by decide +kernel
theorem dX5_plan_95 : decode cX5_plan 95 = .ok (.iload_n 3, 1) := by decide +kernel
theorem dX5_plan_96 : decode cX5_plan 96 = .ok (.iload 4, 2) := by decide +kernel
theorem dX5_plan_98 : decode cX5_plan 98 = .ok (.invokevirtual 154, 3) := by decide +kernel
theorem dX5_plan_101 : decode cX5_plan 101 = .ok (.aload_n 0, 1) := by decide +kernel
theorem dX5_plan_102 : decode cX5_plan 102 = .ok (.getfield 44, 3) := by decide +kernel
theorem dX5_plan_105 : decode cX5_plan 105 = .ok (.iload_n 1, 1) := by decide +kernel
theorem dX5_plan_106 : decode cX5_plan 106 = .ok (.lload 5, 2) := by decide +kernel
theorem dX5_plan_108 : decode cX5_plan 108 = .ok (.invokevirtual 158, 3) := by decide +kernel
theorem dX5_plan_111 : decode cX5_plan 111 = .ok (.ifCond .ne 6, 3) := by decide +kernel
theorem dX5_plan_114 : decode cX5_plan 114 = .ok (.bipush (-4), 2) := by decide +kernel
theorem dX5_plan_116 : decode cX5_plan 116 = .ok (.ireturn, 1) := by decide +kernel
theorem dX5_plan_117 : decode cX5_plan 117 = .ok (.iload 7, 2) := by decide +kernel
theorem dX5_plan_119 : decode cX5_plan 119 = .ok (.ifCond .ne 13, 3) := by decide +kernel
theorem dX5_plan_122 : decode cX5_plan 122 = .ok (.aload_n 0, 1) := by decide +kernel
theorem dX5_plan_123 : decode cX5_plan 123 = .ok (.getfield 44, 3) := by decide +kernel
theorem dX5_plan_126 : decode cX5_plan 126 = .ok (.invokevirtual 162, 3) := by decide +kernel
theorem dX5_plan_129 : decode cX5_plan 129 = .ok (.goto 10, 3) := by decide +kernel
theorem dX5_plan_132 : decode cX5_plan 132 = .ok (.aload_n 0, 1) := by decide +kernel
theorem dX5_plan_133 : decode cX5_plan 133 = .ok (.getfield 44, 3) := by decide +kernel
theorem dX5_plan_136 : decode cX5_plan 136 = .ok (.invokevirtual 166, 3) := by decide +kernel
theorem dX5_plan_139 : decode cX5_plan 139 = .ok (.ireturn, 1) := by decide +kernel
theorem dX5_count_0 : decode cX5_count 0 = .ok (.iload_n 1, 1) := by decide +kernel
theorem dX5_count_1 : decode cX5_count 1 = .ok (.tableswitch 75 0 4 #[35, 43, 51, 59, 67], 35) := by decide +kernel
theorem dX5_count_36 : decode cX5_count 36 = .ok (.aload_n 0, 1) := by decide +kernel
theorem dX5_count_37 : decode cX5_count 37 = .ok (.getfield 10, 3) := by decide +kernel
theorem dX5_count_40 : decode cX5_count 40 = .ok (.invokevirtual 169, 3) := by decide +kernel
theorem dX5_count_43 : decode cX5_count 43 = .ok (.ireturn, 1) := by decide +kernel
theorem dX5_count_44 : decode cX5_count 44 = .ok (.aload_n 0, 1) := by decide +kernel
theorem dX5_count_45 : decode cX5_count 45 = .ok (.getfield 10, 3) := by decide +kernel
theorem dX5_count_48 : decode cX5_count 48 = .ok (.invokevirtual 172, 3) := by decide +kernel
theorem dX5_count_51 : decode cX5_count 51 = .ok (.ireturn, 1) := by decide +kernel
theorem dX5_count_52 : decode cX5_count 52 = .ok (.aload_n 0, 1) := by decide +kernel
theorem dX5_count_53 : decode cX5_count 53 = .ok (.getfield 10, 3) := by decide +kernel
theorem dX5_count_56 : decode cX5_count 56 = .ok (.invokevirtual 175, 3) := by decide +kernel
theorem dX5_count_59 : decode cX5_count 59 = .ok (.ireturn, 1) := by decide +kernel
theorem dX5_count_60 : decode cX5_count 60 = .ok (.aload_n 0, 1) := by decide +kernel
theorem dX5_count_61 : decode cX5_count 61 = .ok (.getfield 19, 3) := by decide +kernel
theorem dX5_count_64 : decode cX5_count 64 = .ok (.invokevirtual 178, 3) := by decide +kernel
theorem dX5_count_67 : decode cX5_count 67 = .ok (.ireturn, 1) := by decide +kernel
theorem dX5_count_68 : decode cX5_count 68 = .ok (.aload_n 0, 1) := by decide +kernel
theorem dX5_count_69 : decode cX5_count 69 = .ok (.getfield 26, 3) := by decide +kernel
theorem dX5_count_72 : decode cX5_count 72 = .ok (.invokevirtual 179, 3) := by decide +kernel
theorem dX5_count_75 : decode cX5_count 75 = .ok (.ireturn, 1) := by decide +kernel
theorem dX5_count_76 : decode cX5_count 76 = .ok (.iconst (-1), 1) := by decide +kernel
theorem dX5_count_77 : decode cX5_count 77 = .ok (.ireturn, 1) := by decide +kernel
theorem dX5_isInput_0 : decode cX5_isInput 0 = .ok (.iload_n 1, 1) := by decide +kernel
theorem dX5_isInput_1 : decode cX5_isInput 1 = .ok (.bipush 12, 2) := by decide +kernel
theorem dX5_isInput_3 : decode cX5_isInput 3 = .ok (.if_icmp .ge 14, 3) := by decide +kernel
theorem dX5_isInput_6 : decode cX5_isInput 6 = .ok (.aload_n 0, 1) := by decide +kernel
theorem dX5_isInput_7 : decode cX5_isInput 7 = .ok (.getfield 10, 3) := by decide +kernel
theorem dX5_isInput_10 : decode cX5_isInput 10 = .ok (.iload_n 1, 1) := by decide +kernel
theorem dX5_isInput_11 : decode cX5_isInput 11 = .ok (.invokevirtual 60, 3) := by decide +kernel
theorem dX5_isInput_14 : decode cX5_isInput 14 = .ok (.goto 14, 3) := by decide +kernel
theorem dX5_isInput_17 : decode cX5_isInput 17 = .ok (.aload_n 0, 1) := by decide +kernel
theorem dX5_isInput_18 : decode cX5_isInput 18 = .ok (.getfield 26, 3) := by decide +kernel
theorem dX5_isInput_21 : decode cX5_isInput 21 = .ok (.iload_n 1, 1) := by decide +kernel
theorem dX5_isInput_22 : decode cX5_isInput 22 = .ok (.bipush 12, 2) := by decide +kernel
theorem dX5_isInput_24 : decode cX5_isInput 24 = .ok (.isub, 1) := by decide +kernel
theorem dX5_isInput_25 : decode cX5_isInput 25 = .ok (.invokevirtual 103, 3) := by decide +kernel
theorem dX5_isInput_28 : decode cX5_isInput 28 = .ok (.ireturn, 1) := by decide +kernel
theorem dX5_isShare_0 : decode cX5_isShare 0 = .ok (.iload_n 0, 1) := by decide +kernel
theorem dX5_isShare_1 : decode cX5_isShare 1 = .ok (.ifCond .lt 13, 3) := by decide +kernel
theorem dX5_isShare_4 : decode cX5_isShare 4 = .ok (.iload_n 0, 1) := by decide +kernel
theorem dX5_isShare_5 : decode cX5_isShare 5 = .ok (.bipush 64, 2) := by decide +kernel
theorem dX5_isShare_7 : decode cX5_isShare 7 = .ok (.if_icmp .gt 7, 3) := by decide +kernel
theorem dX5_isShare_10 : decode cX5_isShare 10 = .ok (.iconst 1, 1) := by decide +kernel
theorem dX5_isShare_11 : decode cX5_isShare 11 = .ok (.goto 4, 3) := by decide +kernel
theorem dX5_isShare_14 : decode cX5_isShare 14 = .ok (.iconst 0, 1) := by decide +kernel
theorem dX5_isShare_15 : decode cX5_isShare 15 = .ok (.ireturn, 1) := by decide +kernel
theorem dX5_isDay_0 : decode cX5_isDay 0 = .ok (.iload_n 0, 1) := by decide +kernel
theorem dX5_isDay_1 : decode cX5_isDay 1 = .ok (.ifCond .lt 14, 3) := by decide +kernel
theorem dX5_isDay_4 : decode cX5_isDay 4 = .ok (.iload_n 0, 1) := by decide +kernel
theorem dX5_isDay_5 : decode cX5_isDay 5 = .ok (.sipush 999, 3) := by decide +kernel
theorem dX5_isDay_8 : decode cX5_isDay 8 = .ok (.if_icmp .gt 7, 3) := by decide +kernel
theorem dX5_isDay_11 : decode cX5_isDay 11 = .ok (.iconst 1, 1) := by decide +kernel
theorem dX5_isDay_12 : decode cX5_isDay 12 = .ok (.goto 4, 3) := by decide +kernel
theorem dX5_isDay_15 : decode cX5_isDay 15 = .ok (.iconst 0, 1) := by decide +kernel
theorem dX5_isDay_16 : decode cX5_isDay 16 = .ok (.ireturn, 1) := by decide +kernel
theorem dX5_areDays_0 : decode cX5_areDays 0 = .ok (.iload_n 0, 1) := by decide +kernel
theorem dX5_areDays_1 : decode cX5_areDays 1 = .ok (.invokestatic 63, 3) := by decide +kernel
theorem dX5_areDays_4 : decode cX5_areDays 4 = .ok (.ifCond .eq 19, 3) := by decide +kernel
theorem dX5_areDays_7 : decode cX5_areDays 7 = .ok (.iload_n 1, 1) := by decide +kernel
theorem dX5_areDays_8 : decode cX5_areDays 8 = .ok (.invokestatic 63, 3) := by decide +kernel
theorem dX5_areDays_11 : decode cX5_areDays 11 = .ok (.ifCond .eq 12, 3) := by decide +kernel
theorem dX5_areDays_14 : decode cX5_areDays 14 = .ok (.iload_n 0, 1) := by decide +kernel
theorem dX5_areDays_15 : decode cX5_areDays 15 = .ok (.iload_n 1, 1) := by decide +kernel
theorem dX5_areDays_16 : decode cX5_areDays 16 = .ok (.if_icmp .gt 7, 3) := by decide +kernel
theorem dX5_areDays_19 : decode cX5_areDays 19 = .ok (.iconst 1, 1) := by decide +kernel
theorem dX5_areDays_20 : decode cX5_areDays 20 = .ok (.goto 4, 3) := by decide +kernel
theorem dX5_areDays_23 : decode cX5_areDays 23 = .ok (.iconst 0, 1) := by decide +kernel
theorem dX5_areDays_24 : decode cX5_areDays 24 = .ok (.ireturn, 1) := by decide +kernel
theorem dX5_areSummedDays_0 : decode cX5_areSummedDays 0 = .ok (.iload_n 0, 1) := by decide +kernel
theorem dX5_areSummedDays_1 : decode cX5_areSummedDays 1 = .ok (.iload_n 1, 1) := by decide +kernel
theorem dX5_areSummedDays_2 : decode cX5_areSummedDays 2 = .ok (.invokestatic 73, 3) := by decide +kernel
theorem dX5_areSummedDays_5 : decode cX5_areSummedDays 5 = .ok (.ifCond .eq 16, 3) := by decide +kernel
theorem dX5_areSummedDays_8 : decode cX5_areSummedDays 8 = .ok (.iload_n 1, 1) := by decide +kernel
theorem dX5_areSummedDays_9 : decode cX5_areSummedDays 9 = .ok (.iload_n 0, 1) := by decide +kernel
theorem dX5_areSummedDays_10 : decode cX5_areSummedDays 10 = .ok (.isub, 1) := by decide +kernel
theorem dX5_areSummedDays_11 : decode cX5_areSummedDays 11 = .ok (.sipush 200, 3) := by decide +kernel
theorem dX5_areSummedDays_14 : decode cX5_areSummedDays 14 = .ok (.if_icmp .ge 7, 3) := by decide +kernel
theorem dX5_areSummedDays_17 : decode cX5_areSummedDays 17 = .ok (.iconst 1, 1) := by decide +kernel
theorem dX5_areSummedDays_18 : decode cX5_areSummedDays 18 = .ok (.goto 4, 3) := by decide +kernel
theorem dX5_areSummedDays_21 : decode cX5_areSummedDays 21 = .ok (.iconst 0, 1) := by decide +kernel
theorem dX5_areSummedDays_22 : decode cX5_areSummedDays 22 = .ok (.ireturn, 1) := by decide +kernel
theorem dX5_isInterval_0 : decode cX5_isInterval 0 = .ok (.iload_n 0, 1) := by decide +kernel
theorem dX5_isInterval_1 : decode cX5_isInterval 1 = .ok (.iconst 1, 1) := by decide +kernel
theorem dX5_isInterval_2 : decode cX5_isInterval 2 = .ok (.if_icmp .lt 13, 3) := by decide +kernel
theorem dX5_isInterval_5 : decode cX5_isInterval 5 = .ok (.iload_n 0, 1) := by decide +kernel
theorem dX5_isInterval_6 : decode cX5_isInterval 6 = .ok (.bipush 100, 2) := by decide +kernel
theorem dX5_isInterval_8 : decode cX5_isInterval 8 = .ok (.if_icmp .gt 7, 3) := by decide +kernel
theorem dX5_isInterval_11 : decode cX5_isInterval 11 = .ok (.iconst 1, 1) := by decide +kernel
theorem dX5_isInterval_12 : decode cX5_isInterval 12 = .ok (.goto 4, 3) := by decide +kernel
theorem dX5_isInterval_15 : decode cX5_isInterval 15 = .ok (.iconst 0, 1) := by decide +kernel
theorem dX5_isInterval_16 : decode cX5_isInterval 16 = .ok (.ireturn, 1) := by decide +kernel
theorem dX5_hasBit_0 : decode cX5_hasBit 0 = .ok (.iload_n 0, 1) := by decide +kernel
theorem dX5_hasBit_1 : decode cX5_hasBit 1 = .ok (.iload_n 1, 1) := by decide +kernel
theorem dX5_hasBit_2 : decode cX5_hasBit 2 = .ok (.iushr, 1) := by decide +kernel
theorem dX5_hasBit_3 : decode cX5_hasBit 3 = .ok (.iconst 1, 1) := by decide +kernel
theorem dX5_hasBit_4 : decode cX5_hasBit 4 = .ok (.iand, 1) := by decide +kernel
theorem dX5_hasBit_5 : decode cX5_hasBit 5 = .ok (.ifCond .eq 7, 3) := by decide +kernel
theorem dX5_hasBit_8 : decode cX5_hasBit 8 = .ok (.iconst 1, 1) := by decide +kernel
theorem dX5_hasBit_9 : decode cX5_hasBit 9 = .ok (.goto 4, 3) := by decide +kernel
theorem dX5_hasBit_12 : decode cX5_hasBit 12 = .ok (.iconst 0, 1) := by decide +kernel
theorem dX5_hasBit_13 : decode cX5_hasBit 13 = .ok (.ireturn, 1) := by decide +kernel
theorem dX5_packed_0 : decode cX5_packed 0 = .ok (.iconst 0, 1) := by decide +kernel
theorem dX5_packed_1 : decode cX5_packed 1 = .ok (.istore_n 2, 1) := by decide +kernel
theorem dX5_packed_2 : decode cX5_packed 2 = .ok (.iconst 0, 1) := by decide +kernel
theorem dX5_packed_3 : decode cX5_packed 3 = .ok (.istore_n 3, 1) := by decide +kernel
theorem dX5_packed_4 : decode cX5_packed 4 = .ok (.iconst 0, 1) := by decide +kernel
theorem dX5_packed_5 : decode cX5_packed 5 = .ok (.istore 4, 2) := by decide +kernel
theorem dX5_packed_7 : decode cX5_packed 7 = .ok (.iload 4, 2) := by decide +kernel
theorem dX5_packed_9 : decode cX5_packed 9 = .ok (.bipush 12, 2) := by decide +kernel
theorem dX5_packed_11 : decode cX5_packed 11 = .ok (.if_icmp .ge 32, 3) := by decide +kernel
theorem dX5_packed_14 : decode cX5_packed 14 = .ok (.iload_n 1, 1) := by decide +kernel
theorem dX5_packed_15 : decode cX5_packed 15 = .ok (.iload 4, 2) := by decide +kernel
theorem dX5_packed_17 : decode cX5_packed 17 = .ok (.invokestatic 180, 3) := by decide +kernel
theorem dX5_packed_20 : decode cX5_packed 20 = .ok (.ifCond .eq 17, 3) := by decide +kernel
theorem dX5_packed_23 : decode cX5_packed 23 = .ok (.iload_n 2, 1) := by decide +kernel
theorem dX5_packed_24 : decode cX5_packed 24 = .ok (.iload_n 0, 1) := by decide +kernel
theorem dX5_packed_25 : decode cX5_packed 25 = .ok (.iload 4, 2) := by decide +kernel
theorem dX5_packed_27 : decode cX5_packed 27 = .ok (.iushr, 1) := by decide +kernel
theorem dX5_packed_28 : decode cX5_packed 28 = .ok (.iconst 1, 1) := by decide +kernel
theorem dX5_packed_29 : decode cX5_packed 29 = .ok (.iand, 1) := by decide +kernel
theorem dX5_packed_30 : decode cX5_packed 30 = .ok (.iload_n 3, 1) := by decide +kernel
theorem dX5_packed_31 : decode cX5_packed 31 = .ok (.ishl, 1) := by decide +kernel
theorem dX5_packed_32 : decode cX5_packed 32 = .ok (.ior, 1) := by decide +kernel
theorem dX5_packed_33 : decode cX5_packed 33 = .ok (.istore_n 2, 1) := by decide +kernel
theorem dX5_packed_34 : decode cX5_packed 34 = .ok (.iinc 3 1, 3) := by decide +kernel
theorem dX5_packed_37 : decode cX5_packed 37 = .ok (.iinc 4 1, 3) := by decide +kernel
theorem dX5_packed_40 : decode cX5_packed 40 = .ok (.goto (-33), 3) := by decide +kernel
theorem dX5_packed_43 : decode cX5_packed 43 = .ok (.iload_n 2, 1) := by decide +kernel
theorem dX5_packed_44 : decode cX5_packed 44 = .ok (.ireturn, 1) := by decide +kernel
theorem dX5_spread_0 : decode cX5_spread 0 = .ok (.iconst 0, 1) := by decide +kernel
theorem dX5_spread_1 : decode cX5_spread 1 = .ok (.istore_n 2, 1) := by decide +kernel
theorem dX5_spread_2 : decode cX5_spread 2 = .ok (.iconst 0, 1) := by decide +kernel
theorem dX5_spread_3 : decode cX5_spread 3 = .ok (.istore_n 3, 1) := by decide +kernel
theorem dX5_spread_4 : decode cX5_spread 4 = .ok (.iconst 0, 1) := by decide +kernel
theorem dX5_spread_5 : decode cX5_spread 5 = .ok (.istore 4, 2) := by decide +kernel
theorem dX5_spread_7 : decode cX5_spread 7 = .ok (.iload 4, 2) := by decide +kernel
theorem dX5_spread_9 : decode cX5_spread 9 = .ok (.bipush 12, 2) := by decide +kernel
theorem dX5_spread_11 : decode cX5_spread 11 = .ok (.if_icmp .ge 32, 3) := by decide +kernel
theorem dX5_spread_14 : decode cX5_spread 14 = .ok (.iload_n 1, 1) := by decide +kernel
theorem dX5_spread_15 : decode cX5_spread 15 = .ok (.iload 4, 2) := by decide +kernel
theorem dX5_spread_17 : decode cX5_spread 17 = .ok (.invokestatic 180, 3) := by decide +kernel
theorem dX5_spread_20 : decode cX5_spread 20 = .ok (.ifCond .eq 17, 3) := by decide +kernel
theorem dX5_spread_23 : decode cX5_spread 23 = .ok (.iload_n 2, 1) := by decide +kernel
theorem dX5_spread_24 : decode cX5_spread 24 = .ok (.iload_n 0, 1) := by decide +kernel
theorem dX5_spread_25 : decode cX5_spread 25 = .ok (.iload_n 3, 1) := by decide +kernel
theorem dX5_spread_26 : decode cX5_spread 26 = .ok (.iushr, 1) := by decide +kernel
theorem dX5_spread_27 : decode cX5_spread 27 = .ok (.iconst 1, 1) := by decide +kernel
theorem dX5_spread_28 : decode cX5_spread 28 = .ok (.iand, 1) := by decide +kernel
theorem dX5_spread_29 : decode cX5_spread 29 = .ok (.iload 4, 2) := by decide +kernel
theorem dX5_spread_31 : decode cX5_spread 31 = .ok (.ishl, 1) := by decide +kernel
theorem dX5_spread_32 : decode cX5_spread 32 = .ok (.ior, 1) := by decide +kernel
theorem dX5_spread_33 : decode cX5_spread 33 = .ok (.istore_n 2, 1) := by decide +kernel
theorem dX5_spread_34 : decode cX5_spread 34 = .ok (.iinc 3 1, 3) := by decide +kernel
theorem dX5_spread_37 : decode cX5_spread 37 = .ok (.iinc 4 1, 3) := by decide +kernel
theorem dX5_spread_40 : decode cX5_spread 40 = .ok (.goto (-33), 3) := by decide +kernel
theorem dX5_spread_43 : decode cX5_spread 43 = .ok (.iload_n 2, 1) := by decide +kernel
theorem dX5_spread_44 : decode cX5_spread 44 = .ok (.ireturn, 1) := by decide +kernel
theorem dX6_init_0 : decode cX6_init 0 = .ok (.aload_n 0, 1) := by decide +kernel
theorem dX6_init_1 : decode cX6_init 1 = .ok (.invokespecial 1, 3) := by decide +kernel
theorem dX6_init_4 : decode cX6_init 4 = .ok (.aload_n 0, 1) := by decide +kernel
theorem dX6_init_5 : decode cX6_init 5 = .ok (.bipush 12, 2) := by decide +kernel
theorem dX6_init_7 : decode cX6_init 7 = .ok (.newarray .int, 2) := by decide +kernel
theorem dX6_init_9 : decode cX6_init 9 = .ok (.putfield 7, 3) := by decide +kernel
theorem dX6_init_12 : decode cX6_init 12 = .ok (.aload_n 0, 1) := by decide +kernel
theorem dX6_init_13 : decode cX6_init 13 = .ok (.bipush 12, 2) := by decide +kernel
theorem dX6_init_15 : decode cX6_init 15 = .ok (.newarray .int, 2) := by decide +kernel
theorem dX6_init_17 : decode cX6_init 17 = .ok (.putfield 13, 3) := by decide +kernel
theorem dX6_init_20 : decode cX6_init 20 = .ok (.aload_n 0, 1) := by decide +kernel
theorem dX6_init_21 : decode cX6_init 21 = .ok (.bipush 12, 2) := by decide +kernel
theorem dX6_init_23 : decode cX6_init 23 = .ok (.newarray .int, 2) := by decide +kernel
theorem dX6_init_25 : decode cX6_init 25 = .ok (.putfield 16, 3) := by decide +kernel
theorem dX6_init_28 : decode cX6_init 28 = .ok (.aload_n 0, 1) := by decide +kernel
theorem dX6_init_29 : decode cX6_init 29 = .ok (.bipush 12, 2) := by decide +kernel
theorem dX6_init_31 : decode cX6_init 31 = .ok (.newarray .int, 2) := by decide +kernel
theorem dX6_init_33 : decode cX6_init 33 = .ok (.putfield 19, 3) := by decide +kernel
theorem dX6_init_36 : decode cX6_init 36 = .ok (.aload_n 0, 1) := by decide +kernel
theorem dX6_init_37 : decode cX6_init 37 = .ok (.bipush 12, 2) := by decide +kernel
theorem dX6_init_39 : decode cX6_init 39 = .ok (.newarray .int, 2) := by decide +kernel
theorem dX6_init_41 : decode cX6_init 41 = .ok (.putfield 22, 3) := by decide +kernel
theorem dX6_init_44 : decode cX6_init 44 = .ok (.aload_n 0, 1) := by decide +kernel
theorem dX6_init_45 : decode cX6_init 45 = .ok (.sipush 144, 3) := by decide +kernel
theorem dX6_init_48 : decode cX6_init 48 = .ok (.newarray .int, 2) := by decide +kernel
theorem dX6_init_50 : decode cX6_init 50 = .ok (.putfield 25, 3) := by decide +kernel
theorem dX6_init_53 : decode cX6_init 53 = .ok (.aload_n 0, 1) := by decide +kernel
theorem dX6_init_54 : decode cX6_init 54 = .ok (.bipush 12, 2) := by decide +kernel
theorem dX6_init_56 : decode cX6_init 56 = .ok (.newarray .int, 2) := by decide +kernel
theorem dX6_init_58 : decode cX6_init 58 = .ok (.putfield 28, 3) := by decide +kernel
theorem dX6_init_61 : decode cX6_init 61 = .ok (.aload_n 0, 1) := by decide +kernel
theorem dX6_init_62 : decode cX6_init 62 = .ok (.bipush 12, 2) := by decide +kernel
theorem dX6_init_64 : decode cX6_init 64 = .ok (.newarray .int, 2) := by decide +kernel
theorem dX6_init_66 : decode cX6_init 66 = .ok (.putfield 31, 3) := by decide +kernel
theorem dX6_init_69 : decode cX6_init 69 = .ok (.aload_n 0, 1) := by decide +kernel
theorem dX6_init_70 : decode cX6_init 70 = .ok (.bipush 20, 2) := by decide +kernel
theorem dX6_init_72 : decode cX6_init 72 = .ok (.newarray .int, 2) := by decide +kernel
theorem dX6_init_74 : decode cX6_init 74 = .ok (.putfield 34, 3) := by decide +kernel
theorem dX6_init_77 : decode cX6_init 77 = .ok (.aload_n 0, 1) := by decide +kernel
theorem dX6_init_78 : decode cX6_init 78 = .ok (.bipush 20, 2) := by decide +kernel
theorem dX6_init_80 : decode cX6_init 80 = .ok (.newarray .int, 2) := by decide +kernel
theorem dX6_init_82 : decode cX6_init 82 = .ok (.putfield 37, 3) := by decide +kernel
theorem dX6_init_85 : decode cX6_init 85 = .ok (.aload_n 0, 1) := by decide +kernel
theorem dX6_init_86 : decode cX6_init 86 = .ok (.bipush 20, 2) := by decide +kernel
theorem dX6_init_88 : decode cX6_init 88 = .ok (.newarray .int, 2) := by decide +kernel
theorem dX6_init_90 : decode cX6_init 90 = .ok (.putfield 40, 3) := by decide +kernel
theorem dX6_init_93 : decode cX6_init 93 = .ok (.aload_n 0, 1) := by decide +kernel
theorem dX6_init_94 : decode cX6_init 94 = .ok (.iconst 4, 1) := by decide +kernel
theorem dX6_init_95 : decode cX6_init 95 = .ok (.newarray .int, 2) := by decide +kernel
theorem dX6_init_97 : decode cX6_init 97 = .ok (.putfield 43, 3) := by decide +kernel
theorem dX6_init_100 : decode cX6_init 100 = .ok (.aload_n 0, 1) := by decide +kernel
theorem dX6_init_101 : decode cX6_init 101 = .ok (.iconst 4, 1) := by decide +kernel
theorem dX6_init_102 : decode cX6_init 102 = .ok (.newarray .int, 2) := by decide +kernel
theorem dX6_init_104 : decode cX6_init 104 = .ok (.putfield 46, 3) := by decide +kernel
theorem dX6_init_107 : decode cX6_init 107 = .ok (.aload_n 0, 1) := by decide +kernel
theorem dX6_init_108 : decode cX6_init 108 = .ok (.bipush 12, 2) := by decide +kernel
theorem dX6_init_110 : decode cX6_init 110 = .ok (.newarray .int, 2) := by decide +kernel
theorem dX6_init_112 : decode cX6_init 112 = .ok (.putfield 49, 3) := by decide +kernel
theorem dX6_init_115 : decode cX6_init 115 = .ok (.aload_n 0, 1) := by decide +kernel
theorem dX6_init_116 : decode cX6_init 116 = .ok (.bipush 12, 2) := by decide +kernel
theorem dX6_init_118 : decode cX6_init 118 = .ok (.newarray .int, 2) := by decide +kernel
theorem dX6_init_120 : decode cX6_init 120 = .ok (.putfield 52, 3) := by decide +kernel
theorem dX6_init_123 : decode cX6_init 123 = .ok (.aload_n 0, 1) := by decide +kernel
theorem dX6_init_124 : decode cX6_init 124 = .ok (.bipush 48, 2) := by decide +kernel
theorem dX6_init_126 : decode cX6_init 126 = .ok (.newarray .int, 2) := by decide +kernel
theorem dX6_init_128 : decode cX6_init 128 = .ok (.putfield 55, 3) := by decide +kernel
theorem dX6_init_131 : decode cX6_init 131 = .ok (.aload_n 0, 1) := by decide +kernel
theorem dX6_init_132 : decode cX6_init 132 = .ok (.bipush 12, 2) := by decide +kernel
theorem dX6_init_134 : decode cX6_init 134 = .ok (.newarray .int, 2) := by decide +kernel
theorem dX6_init_136 : decode cX6_init 136 = .ok (.putfield 58, 3) := by decide +kernel
theorem dX6_init_139 : decode cX6_init 139 = .ok (.aload_n 0, 1) := by decide +kernel
theorem dX6_init_140 : decode cX6_init 140 = .ok (.bipush 12, 2) := by decide +kernel
theorem dX6_init_142 : decode cX6_init 142 = .ok (.newarray .boolean, 2) := by decide +kernel
theorem dX6_init_144 : decode cX6_init 144 = .ok (.putfield 61, 3) := by decide +kernel
theorem dX6_init_147 : decode cX6_init 147 = .ok (.aload_n 0, 1) := by decide +kernel
theorem dX6_init_148 : decode cX6_init 148 = .ok (.bipush 24, 2) := by decide +kernel
theorem dX6_init_150 : decode cX6_init 150 = .ok (.newarray .int, 2) := by decide +kernel
theorem dX6_init_152 : decode cX6_init 152 = .ok (.putfield 65, 3) := by decide +kernel
theorem dX6_init_155 : decode cX6_init 155 = .ok (.aload_n 0, 1) := by decide +kernel
theorem dX6_init_156 : decode cX6_init 156 = .ok (.bipush 24, 2) := by decide +kernel
theorem dX6_init_158 : decode cX6_init 158 = .ok (.newarray .int, 2) := by decide +kernel
theorem dX6_init_160 : decode cX6_init 160 = .ok (.putfield 68, 3) := by decide +kernel
theorem dX6_init_163 : decode cX6_init 163 = .ok (.aload_n 0, 1) := by decide +kernel
theorem dX6_init_164 : decode cX6_init 164 = .ok (.iconst 3, 1) := by decide +kernel
theorem dX6_init_165 : decode cX6_init 165 = .ok (.newarray .int, 2) := by decide +kernel
theorem dX6_init_167 : decode cX6_init 167 = .ok (.putfield 71, 3) := by decide +kernel
theorem dX6_init_170 : decode cX6_init 170 = .ok (.iconst 0, 1) := by decide +kernel
theorem dX6_init_171 : decode cX6_init 171 = .ok (.istore_n 1, 1) := by decide +kernel
theorem dX6_init_172 : decode cX6_init 172 = .ok (.iload_n 1, 1) := by decide +kernel
theorem dX6_init_173 : decode cX6_init 173 = .ok (.bipush 12, 2) := by decide +kernel
theorem dX6_init_175 : decode cX6_init 175 = .ok (.if_icmp .ge 23, 3) := by decide +kernel
theorem dX6_init_178 : decode cX6_init 178 = .ok (.aload_n 0, 1) := by decide +kernel
theorem dX6_init_179 : decode cX6_init 179 = .ok (.getfield 19, 3) := by decide +kernel
theorem dX6_init_182 : decode cX6_init 182 = .ok (.iload_n 1, 1) := by decide +kernel
theorem dX6_init_183 : decode cX6_init 183 = .ok (.iconst 1, 1) := by decide +kernel
theorem dX6_init_184 : decode cX6_init 184 = .ok (.iastore, 1) := by decide +kernel
theorem dX6_init_185 : decode cX6_init 185 = .ok (.aload_n 0, 1) := by decide +kernel
theorem dX6_init_186 : decode cX6_init 186 = .ok (.getfield 31, 3) := by decide +kernel
theorem dX6_init_189 : decode cX6_init 189 = .ok (.iload_n 1, 1) := by decide +kernel
theorem dX6_init_190 : decode cX6_init 190 = .ok (.iconst (-1), 1) := by decide +kernel
theorem dX6_init_191 : decode cX6_init 191 = .ok (.iastore, 1) := by decide +kernel
theorem dX6_init_192 : decode cX6_init 192 = .ok (.iinc 1 1, 3) := by decide +kernel
theorem dX6_init_195 : decode cX6_init 195 = .ok (.goto (-23), 3) := by decide +kernel
theorem dX6_init_198 : decode cX6_init 198 = .ok (.return_, 1) := by decide +kernel
theorem dX6_in_0 : decode cX6_in 0 = .ok (.lload_n 0, 1) := by decide +kernel
theorem dX6_in_1 : decode cX6_in 1 = .ok (.lload_n 2, 1) := by decide +kernel
theorem dX6_in_2 : decode cX6_in 2 = .ok (.lcmp, 1) := by decide +kernel
theorem dX6_in_3 : decode cX6_in 3 = .ok (.ifCond .lt 14, 3) := by decide +kernel
theorem dX6_in_6 : decode cX6_in 6 = .ok (.lload_n 0, 1) := by decide +kernel
theorem dX6_in_7 : decode cX6_in 7 = .ok (.lload 4, 2) := by decide +kernel
theorem dX6_in_9 : decode cX6_in 9 = .ok (.lcmp, 1) := by decide +kernel
theorem dX6_in_10 : decode cX6_in 10 = .ok (.ifCond .gt 7, 3) := by decide +kernel
theorem dX6_in_13 : decode cX6_in 13 = .ok (.iconst 1, 1) := by decide +kernel
theorem dX6_in_14 : decode cX6_in 14 = .ok (.goto 4, 3) := by decide +kernel
theorem dX6_in_17 : decode cX6_in 17 = .ok (.iconst 0, 1) := by decide +kernel
theorem dX6_in_18 : decode cX6_in 18 = .ok (.ireturn, 1) := by decide +kernel
theorem dX6_isPart_0 : decode cX6_isPart 0 = .ok (.iload_n 1, 1) := by decide +kernel
theorem dX6_isPart_1 : decode cX6_isPart 1 = .ok (.i2l, 1) := by decide +kernel
theorem dX6_isPart_2 : decode cX6_isPart 2 = .ok (.lconst 0, 1) := by decide +kernel
theorem dX6_isPart_3 : decode cX6_isPart 3 = .ok (.aload_n 0, 1) := by decide +kernel
theorem dX6_isPart_4 : decode cX6_isPart 4 = .ok (.getfield 74, 3) := by decide +kernel
theorem dX6_isPart_7 : decode cX6_isPart 7 = .ok (.iconst 1, 1) := by decide +kernel
theorem dX6_isPart_8 : decode cX6_isPart 8 = .ok (.isub, 1) := by decide +kernel
theorem dX6_isPart_9 : decode cX6_isPart 9 = .ok (.i2l, 1) := by decide +kernel
theorem dX6_isPart_10 : decode cX6_isPart 10 = .ok (.invokestatic 78, 3) := by decide +kernel
theorem dX6_isPart_13 : decode cX6_isPart 13 = .ok (.ireturn, 1) := by decide +kernel
theorem dX6_isVote_0 : decode cX6_isVote 0 = .ok (.iload_n 1, 1) := by decide +kernel
theorem dX6_isVote_1 : decode cX6_isVote 1 = .ok (.i2l, 1) := by decide +kernel
theorem dX6_isVote_2 : decode cX6_isVote 2 = .ok (.lconst 0, 1) := by decide +kernel
theorem dX6_isVote_3 : decode cX6_isVote 3 = .ok (.aload_n 0, 1) := by decide +kernel
theorem dX6_isVote_4 : decode cX6_isVote 4 = .ok (.getfield 82, 3) := by decide +kernel
theorem dX6_isVote_7 : decode cX6_isVote 7 = .ok (.iconst 1, 1) := by decide +kernel
theorem dX6_isVote_8 : decode cX6_isVote 8 = .ok (.isub, 1) := by decide +kernel
theorem dX6_isVote_9 : decode cX6_isVote 9 = .ok (.i2l, 1) := by decide +kernel
theorem dX6_isVote_10 : decode cX6_isVote 10 = .ok (.invokestatic 78, 3) := by decide +kernel
theorem dX6_isVote_13 : decode cX6_isVote 13 = .ok (.ireturn, 1) := by decide +kernel
theorem dX6_isDay_0 : decode cX6_isDay 0 = .ok (.iload_n 0, 1) := by decide +kernel
theorem dX6_isDay_1 : decode cX6_isDay 1 = .ok (.i2l, 1) := by decide +kernel
theorem dX6_isDay_2 : decode cX6_isDay 2 = .ok (.lconst 0, 1) := by decide +kernel
theorem dX6_isDay_3 : decode cX6_isDay 3 = .ok (.ldc2_w 85, 3) := by decide +kernel
theorem dX6_isDay_6 : decode cX6_isDay 6 = .ok (.invokestatic 78, 3) := by decide +kernel
theorem dX6_isDay_9 : decode cX6_isDay 9 = .ok (.ireturn, 1) := by decide +kernel
theorem dX6_part_0 : decode cX6_part 0 = .ok (.iload_n 1, 1) := by decide +kernel
theorem dX6_part_1 : decode cX6_part 1 = .ok (.i2l, 1) := by decide +kernel
theorem dX6_part_2 : decode cX6_part 2 = .ok (.lconst 0, 1) := by decide +kernel
theorem dX6_part_3 : decode cX6_part 3 = .ok (.ldc2_w 87, 3) := by decide +kernel
theorem dX6_part_6 : decode cX6_part 6 = .ok (.invokestatic 78, 3) := by decide +kernel
theorem dX6_part_9 : decode cX6_part 9 = .ok (.ifCond .eq 27, 3) := by decide +kernel
theorem dX6_part_12 : decode cX6_part 12 = .ok (.iload_n 2, 1) := by decide +kernel
theorem dX6_part_13 : decode cX6_part 13 = .ok (.i2l, 1) := by decide +kernel
theorem dX6_part_14 : decode cX6_part 14 = .ok (.lconst 0, 1) := by decide +kernel
theorem dX6_part_15 : decode cX6_part 15 = .ok (.ldc2_w 87, 3) := by decide +kernel
theorem dX6_part_18 : decode cX6_part 18 = .ok (.invokestatic 78, 3) := by decide +kernel
theorem dX6_part_21 : decode cX6_part 21 = .ok (.ifCond .eq 15, 3) := by decide +kernel
theorem dX6_part_24 : decode cX6_part 24 = .ok (.iload_n 3, 1) := by decide +kernel
theorem dX6_part_25 : decode cX6_part 25 = .ok (.i2l, 1) := by decide +kernel
theorem dX6_part_26 : decode cX6_part 26 = .ok (.lconst 0, 1) := by decide +kernel
theorem dX6_part_27 : decode cX6_part 27 = .ok (.ldc2_w 87, 3) := by decide +kernel
theorem dX6_part_30 : decode cX6_part 30 = .ok (.invokestatic 78, 3) := by decide +kernel
theorem dX6_part_33 : decode cX6_part 33 = .ok (.ifCond .ne 5, 3) := by decide +kernel
theorem dX6_part_36 : decode cX6_part 36 = .ok (.iconst (-1), 1) := by decide +kernel
theorem dX6_part_37 : decode cX6_part 37 = .ok (.ireturn, 1) := by decide +kernel
theorem dX6_part_38 : decode cX6_part 38 = .ok (.aload_n 0, 1) := by decide +kernel
theorem dX6_part_39 : decode cX6_part 39 = .ok (.getfield 74, 3) := by decide +kernel
end
section
theorem dX6_part_42 : decode cX6_part 42 = .ok (.bipush 12, 2) := by decide +kernel
theorem dX6_part_44 : decode cX6_part 44 = .ok (.if_icmp .ne 6, 3) := by decide +kernel
theorem dX6_part_47 : decode cX6_part 47 = .ok (.bipush (-3), 2) := by decide +kernel
theorem dX6_part_49 : decode cX6_part 49 = .ok (.ireturn, 1) := by decide +kernel
theorem dX6_part_50 : decode cX6_part 50 = .ok (.aload_n 0, 1) := by decide +kernel
theorem dX6_part_51 : decode cX6_part 51 = .ok (.getfield 7, 3) := by decide +kernel
theorem dX6_part_54 : decode cX6_part 54 = .ok (.aload_n 0, 1) := by decide +kernel
theorem dX6_part_55 : decode cX6_part 55 = .ok (.getfield 74, 3) := by decide +kernel
theorem dX6_part_58 : decode cX6_part 58 = .ok (.iload_n 1, 1) := by decide +kernel
theorem dX6_part_59 : decode cX6_part 59 = .ok (.iastore, 1) := by decide +kernel
theorem dX6_part_60 : decode cX6_part 60 = .ok (.aload_n 0, 1) := by decide +kernel
theorem dX6_part_61 : decode cX6_part 61 = .ok (.getfield 13, 3) := by decide +kernel
theorem dX6_part_64 : decode cX6_part 64 = .ok (.aload_n 0, 1) := by decide +kernel
theorem dX6_part_65 : decode cX6_part 65 = .ok (.getfield 74, 3) := by decide +kernel
theorem dX6_part_68 : decode cX6_part 68 = .ok (.iload_n 2, 1) := by decide +kernel
theorem dX6_part_69 : decode cX6_part 69 = .ok (.iastore, 1) := by decide +kernel
theorem dX6_part_70 : decode cX6_part 70 = .ok (.aload_n 0, 1) := by decide +kernel
theorem dX6_part_71 : decode cX6_part 71 = .ok (.getfield 16, 3) := by decide +kernel
theorem dX6_part_74 : decode cX6_part 74 = .ok (.aload_n 0, 1) := by decide +kernel
theorem dX6_part_75 : decode cX6_part 75 = .ok (.getfield 74, 3) := by decide +kernel
theorem dX6_part_78 : decode cX6_part 78 = .ok (.iload_n 3, 1) := by decide +kernel
theorem dX6_part_79 : decode cX6_part 79 = .ok (.iastore, 1) := by decide +kernel
theorem dX6_part_80 : decode cX6_part 80 = .ok (.aload_n 0, 1) := by decide +kernel
theorem dX6_part_81 : decode cX6_part 81 = .ok (.dup, 1) := by decide +kernel
theorem dX6_part_82 : decode cX6_part 82 = .ok (.getfield 74, 3) := by decide +kernel
theorem dX6_part_85 : decode cX6_part 85 = .ok (.iconst 1, 1) := by decide +kernel
theorem dX6_part_86 : decode cX6_part 86 = .ok (.iadd, 1) := by decide +kernel
theorem dX6_part_87 : decode cX6_part 87 = .ok (.putfield 74, 3) := by decide +kernel
theorem dX6_part_90 : decode cX6_part 90 = .ok (.aload_n 0, 1) := by decide +kernel
theorem dX6_part_91 : decode cX6_part 91 = .ok (.getfield 74, 3) := by decide +kernel
theorem dX6_part_94 : decode cX6_part 94 = .ok (.iconst 1, 1) := by decide +kernel
theorem dX6_part_95 : decode cX6_part 95 = .ok (.isub, 1) := by decide +kernel
theorem dX6_part_96 : decode cX6_part 96 = .ok (.ireturn, 1) := by decide +kernel
theorem dX6_test_0 : decode cX6_test 0 = .ok (.aload_n 0, 1) := by decide +kernel
theorem dX6_test_1 : decode cX6_test 1 = .ok (.iload_n 1, 1) := by decide +kernel
theorem dX6_test_2 : decode cX6_test 2 = .ok (.invokevirtual 89, 3) := by decide +kernel
theorem dX6_test_5 : decode cX6_test 5 = .ok (.ifCond .eq 10, 3) := by decide +kernel
theorem dX6_test_8 : decode cX6_test 8 = .ok (.iload_n 2, 1) := by decide +kernel
theorem dX6_test_9 : decode cX6_test 9 = .ok (.invokestatic 93, 3) := by decide +kernel
theorem dX6_test_12 : decode cX6_test 12 = .ok (.ifCond .ne 5, 3) := by decide +kernel
theorem dX6_test_15 : decode cX6_test 15 = .ok (.iconst (-1), 1) := by decide +kernel
theorem dX6_test_16 : decode cX6_test 16 = .ok (.ireturn, 1) := by decide +kernel
theorem dX6_test_17 : decode cX6_test 17 = .ok (.aload_n 0, 1) := by decide +kernel
theorem dX6_test_18 : decode cX6_test 18 = .ok (.getfield 22, 3) := by decide +kernel
theorem dX6_test_21 : decode cX6_test 21 = .ok (.iload_n 1, 1) := by decide +kernel
theorem dX6_test_22 : decode cX6_test 22 = .ok (.iaload, 1) := by decide +kernel
theorem dX6_test_23 : decode cX6_test 23 = .ok (.ifCond .le 28, 3) := by decide +kernel
theorem dX6_test_26 : decode cX6_test 26 = .ok (.aload_n 0, 1) := by decide +kernel
theorem dX6_test_27 : decode cX6_test 27 = .ok (.getfield 25, 3) := by decide +kernel
theorem dX6_test_30 : decode cX6_test 30 = .ok (.bipush 12, 2) := by decide +kernel
theorem dX6_test_32 : decode cX6_test 32 = .ok (.iload_n 1, 1) := by decide +kernel
theorem dX6_test_33 : decode cX6_test 33 = .ok (.imul, 1) := by decide +kernel
theorem dX6_test_34 : decode cX6_test 34 = .ok (.aload_n 0, 1) := by decide +kernel
theorem dX6_test_35 : decode cX6_test 35 = .ok (.getfield 22, 3) := by decide +kernel
theorem dX6_test_38 : decode cX6_test 38 = .ok (.iload_n 1, 1) := by decide +kernel
theorem dX6_test_39 : decode cX6_test 39 = .ok (.iaload, 1) := by decide +kernel
theorem dX6_test_40 : decode cX6_test 40 = .ok (.iadd, 1) := by decide +kernel
theorem dX6_test_41 : decode cX6_test 41 = .ok (.iconst 1, 1) := by decide +kernel
theorem dX6_test_42 : decode cX6_test 42 = .ok (.isub, 1) := by decide +kernel
theorem dX6_test_43 : decode cX6_test 43 = .ok (.iaload, 1) := by decide +kernel
theorem dX6_test_44 : decode cX6_test 44 = .ok (.iload_n 2, 1) := by decide +kernel
theorem dX6_test_45 : decode cX6_test 45 = .ok (.if_icmp .lt 6, 3) := by decide +kernel
theorem dX6_test_48 : decode cX6_test 48 = .ok (.bipush (-2), 2) := by decide +kernel
theorem dX6_test_50 : decode cX6_test 50 = .ok (.ireturn, 1) := by decide +kernel
theorem dX6_test_51 : decode cX6_test 51 = .ok (.aload_n 0, 1) := by decide +kernel
theorem dX6_test_52 : decode cX6_test 52 = .ok (.getfield 22, 3) := by decide +kernel
theorem dX6_test_55 : decode cX6_test 55 = .ok (.iload_n 1, 1) := by decide +kernel
theorem dX6_test_56 : decode cX6_test 56 = .ok (.iaload, 1) := by decide +kernel
theorem dX6_test_57 : decode cX6_test 57 = .ok (.bipush 12, 2) := by decide +kernel
theorem dX6_test_59 : decode cX6_test 59 = .ok (.if_icmp .ne 6, 3) := by decide +kernel
theorem dX6_test_62 : decode cX6_test 62 = .ok (.bipush (-3), 2) := by decide +kernel
theorem dX6_test_64 : decode cX6_test 64 = .ok (.ireturn, 1) := by decide +kernel
theorem dX6_test_65 : decode cX6_test 65 = .ok (.aload_n 0, 1) := by decide +kernel
theorem dX6_test_66 : decode cX6_test 66 = .ok (.getfield 25, 3) := by decide +kernel
theorem dX6_test_69 : decode cX6_test 69 = .ok (.bipush 12, 2) := by decide +kernel
theorem dX6_test_71 : decode cX6_test 71 = .ok (.iload_n 1, 1) := by decide +kernel
theorem dX6_test_72 : decode cX6_test 72 = .ok (.imul, 1) := by decide +kernel
theorem dX6_test_73 : decode cX6_test 73 = .ok (.aload_n 0, 1) := by decide +kernel
theorem dX6_test_74 : decode cX6_test 74 = .ok (.getfield 22, 3) := by decide +kernel
theorem dX6_test_77 : decode cX6_test 77 = .ok (.iload_n 1, 1) := by decide +kernel
theorem dX6_test_78 : decode cX6_test 78 = .ok (.iaload, 1) := by decide +kernel
theorem dX6_test_79 : decode cX6_test 79 = .ok (.iadd, 1) := by decide +kernel
theorem dX6_test_80 : decode cX6_test 80 = .ok (.iload_n 2, 1) := by decide +kernel
theorem dX6_test_81 : decode cX6_test 81 = .ok (.iastore, 1) := by decide +kernel
theorem dX6_test_82 : decode cX6_test 82 = .ok (.aload_n 0, 1) := by decide +kernel
theorem dX6_test_83 : decode cX6_test 83 = .ok (.getfield 22, 3) := by decide +kernel
theorem dX6_test_86 : decode cX6_test 86 = .ok (.iload_n 1, 1) := by decide +kernel
theorem dX6_test_87 : decode cX6_test 87 = .ok (.dup2, 1) := by decide +kernel
theorem dX6_test_88 : decode cX6_test 88 = .ok (.iaload, 1) := by decide +kernel
theorem dX6_test_89 : decode cX6_test 89 = .ok (.iconst 1, 1) := by decide +kernel
theorem dX6_test_90 : decode cX6_test 90 = .ok (.iadd, 1) := by decide +kernel
theorem dX6_test_91 : decode cX6_test 91 = .ok (.iastore, 1) := by decide +kernel
theorem dX6_test_92 : decode cX6_test 92 = .ok (.aload_n 0, 1) := by decide +kernel
theorem dX6_test_93 : decode cX6_test 93 = .ok (.getfield 22, 3) := by decide +kernel
theorem dX6_test_96 : decode cX6_test 96 = .ok (.iload_n 1, 1) := by decide +kernel
theorem dX6_test_97 : decode cX6_test 97 = .ok (.iaload, 1) := by decide +kernel
theorem dX6_test_98 : decode cX6_test 98 = .ok (.ireturn, 1) := by decide +kernel
theorem dX6_noTests_0 : decode cX6_noTests 0 = .ok (.aload_n 0, 1) := by decide +kernel
theorem dX6_noTests_1 : decode cX6_noTests 1 = .ok (.iload_n 1, 1) := by decide +kernel
theorem dX6_noTests_2 : decode cX6_noTests 2 = .ok (.invokevirtual 89, 3) := by decide +kernel
theorem dX6_noTests_5 : decode cX6_noTests 5 = .ok (.ifCond .eq 10, 3) := by decide +kernel
theorem dX6_noTests_8 : decode cX6_noTests 8 = .ok (.iload_n 2, 1) := by decide +kernel
theorem dX6_noTests_9 : decode cX6_noTests 9 = .ok (.invokestatic 93, 3) := by decide +kernel
theorem dX6_noTests_12 : decode cX6_noTests 12 = .ok (.ifCond .ne 5, 3) := by decide +kernel
theorem dX6_noTests_15 : decode cX6_noTests 15 = .ok (.iconst (-1), 1) := by decide +kernel
theorem dX6_noTests_16 : decode cX6_noTests 16 = .ok (.ireturn, 1) := by decide +kernel
theorem dX6_noTests_17 : decode cX6_noTests 17 = .ok (.aload_n 0, 1) := by decide +kernel
theorem dX6_noTests_18 : decode cX6_noTests 18 = .ok (.getfield 22, 3) := by decide +kernel
theorem dX6_noTests_21 : decode cX6_noTests 21 = .ok (.iload_n 1, 1) := by decide +kernel
theorem dX6_noTests_22 : decode cX6_noTests 22 = .ok (.iaload, 1) := by decide +kernel
theorem dX6_noTests_23 : decode cX6_noTests 23 = .ok (.istore_n 3, 1) := by decide +kernel
theorem dX6_noTests_24 : decode cX6_noTests 24 = .ok (.aload_n 0, 1) := by decide +kernel
theorem dX6_noTests_25 : decode cX6_noTests 25 = .ok (.getfield 22, 3) := by decide +kernel
theorem dX6_noTests_28 : decode cX6_noTests 28 = .ok (.iload_n 1, 1) := by decide +kernel
theorem dX6_noTests_29 : decode cX6_noTests 29 = .ok (.iaload, 1) := by decide +kernel
theorem dX6_noTests_30 : decode cX6_noTests 30 = .ok (.ifCond .le 38, 3) := by decide +kernel
theorem dX6_noTests_33 : decode cX6_noTests 33 = .ok (.aload_n 0, 1) := by decide +kernel
theorem dX6_noTests_34 : decode cX6_noTests 34 = .ok (.getfield 25, 3) := by decide +kernel
theorem dX6_noTests_37 : decode cX6_noTests 37 = .ok (.bipush 12, 2) := by decide +kernel
theorem dX6_noTests_39 : decode cX6_noTests 39 = .ok (.iload_n 1, 1) := by decide +kernel
theorem dX6_noTests_40 : decode cX6_noTests 40 = .ok (.imul, 1) := by decide +kernel
theorem dX6_noTests_41 : decode cX6_noTests 41 = .ok (.aload_n 0, 1) := by decide +kernel
theorem dX6_noTests_42 : decode cX6_noTests 42 = .ok (.getfield 22, 3) := by decide +kernel
theorem dX6_noTests_45 : decode cX6_noTests 45 = .ok (.iload_n 1, 1) := by decide +kernel
theorem dX6_noTests_46 : decode cX6_noTests 46 = .ok (.iaload, 1) := by decide +kernel
theorem dX6_noTests_47 : decode cX6_noTests 47 = .ok (.iadd, 1) := by decide +kernel
theorem dX6_noTests_48 : decode cX6_noTests 48 = .ok (.iconst 1, 1) := by decide +kernel
theorem dX6_noTests_49 : decode cX6_noTests 49 = .ok (.isub, 1) := by decide +kernel
theorem dX6_noTests_50 : decode cX6_noTests 50 = .ok (.iaload, 1) := by decide +kernel
theorem dX6_noTests_51 : decode cX6_noTests 51 = .ok (.iload_n 2, 1) := by decide +kernel
theorem dX6_noTests_52 : decode cX6_noTests 52 = .ok (.if_icmp .lt 16, 3) := by decide +kernel
theorem dX6_noTests_55 : decode cX6_noTests 55 = .ok (.aload_n 0, 1) := by decide +kernel
theorem dX6_noTests_56 : decode cX6_noTests 56 = .ok (.getfield 22, 3) := by decide +kernel
theorem dX6_noTests_59 : decode cX6_noTests 59 = .ok (.iload_n 1, 1) := by decide +kernel
theorem dX6_noTests_60 : decode cX6_noTests 60 = .ok (.dup2, 1) := by decide +kernel
theorem dX6_noTests_61 : decode cX6_noTests 61 = .ok (.iaload, 1) := by decide +kernel
theorem dX6_noTests_62 : decode cX6_noTests 62 = .ok (.iconst 1, 1) := by decide +kernel
theorem dX6_noTests_63 : decode cX6_noTests 63 = .ok (.isub, 1) := by decide +kernel
theorem dX6_noTests_64 : decode cX6_noTests 64 = .ok (.iastore, 1) := by decide +kernel
theorem dX6_noTests_65 : decode cX6_noTests 65 = .ok (.goto (-41), 3) := by decide +kernel
theorem dX6_noTests_68 : decode cX6_noTests 68 = .ok (.iload_n 3, 1) := by decide +kernel
theorem dX6_noTests_69 : decode cX6_noTests 69 = .ok (.aload_n 0, 1) := by decide +kernel
theorem dX6_noTests_70 : decode cX6_noTests 70 = .ok (.getfield 22, 3) := by decide +kernel
theorem dX6_noTests_73 : decode cX6_noTests 73 = .ok (.iload_n 1, 1) := by decide +kernel
theorem dX6_noTests_74 : decode cX6_noTests 74 = .ok (.iaload, 1) := by decide +kernel
theorem dX6_noTests_75 : decode cX6_noTests 75 = .ok (.isub, 1) := by decide +kernel
theorem dX6_noTests_76 : decode cX6_noTests 76 = .ok (.ireturn, 1) := by decide +kernel
theorem dX6_areDays_0 : decode cX6_areDays 0 = .ok (.iload_n 0, 1) := by decide +kernel
theorem dX6_areDays_1 : decode cX6_areDays 1 = .ok (.invokestatic 93, 3) := by decide +kernel
theorem dX6_areDays_4 : decode cX6_areDays 4 = .ok (.ifCond .eq 19, 3) := by decide +kernel
theorem dX6_areDays_7 : decode cX6_areDays 7 = .ok (.iload_n 1, 1) := by decide +kernel
theorem dX6_areDays_8 : decode cX6_areDays 8 = .ok (.invokestatic 93, 3) := by decide +kernel
theorem dX6_areDays_11 : decode cX6_areDays 11 = .ok (.ifCond .eq 12, 3) := by decide +kernel
theorem dX6_areDays_14 : decode cX6_areDays 14 = .ok (.iload_n 0, 1) := by decide +kernel
theorem dX6_areDays_15 : decode cX6_areDays 15 = .ok (.iload_n 1, 1) := by decide +kernel
theorem dX6_areDays_16 : decode cX6_areDays 16 = .ok (.if_icmp .gt 7, 3) := by decide +kernel
theorem dX6_areDays_19 : decode cX6_areDays 19 = .ok (.iconst 1, 1) := by decide +kernel
theorem dX6_areDays_20 : decode cX6_areDays 20 = .ok (.goto 4, 3) := by decide +kernel
theorem dX6_areDays_23 : decode cX6_areDays 23 = .ok (.iconst 0, 1) := by decide +kernel
theorem dX6_areDays_24 : decode cX6_areDays 24 = .ok (.ireturn, 1) := by decide +kernel
theorem dX6_bypass_0 : decode cX6_bypass 0 = .ok (.aload_n 0, 1) := by decide +kernel
theorem dX6_bypass_1 : decode cX6_bypass 1 = .ok (.iload_n 1, 1) := by decide +kernel
theorem dX6_bypass_2 : decode cX6_bypass 2 = .ok (.invokevirtual 89, 3) := by decide +kernel
theorem dX6_bypass_5 : decode cX6_bypass 5 = .ok (.ifCond .eq 11, 3) := by decide +kernel
theorem dX6_bypass_8 : decode cX6_bypass 8 = .ok (.iload_n 2, 1) := by decide +kernel
theorem dX6_bypass_9 : decode cX6_bypass 9 = .ok (.iload_n 3, 1) := by decide +kernel
theorem dX6_bypass_10 : decode cX6_bypass 10 = .ok (.invokestatic 96, 3) := by decide +kernel
theorem dX6_bypass_13 : decode cX6_bypass 13 = .ok (.ifCond .ne 5, 3) := by decide +kernel
theorem dX6_bypass_16 : decode cX6_bypass 16 = .ok (.iconst (-1), 1) := by decide +kernel
theorem dX6_bypass_17 : decode cX6_bypass 17 = .ok (.ireturn, 1) := by decide +kernel
theorem dX6_bypass_18 : decode cX6_bypass 18 = .ok (.aload_n 0, 1) := by decide +kernel
theorem dX6_bypass_19 : decode cX6_bypass 19 = .ok (.getfield 100, 3) := by decide +kernel
theorem dX6_bypass_22 : decode cX6_bypass 22 = .ok (.bipush 20, 2) := by decide +kernel
theorem dX6_bypass_24 : decode cX6_bypass 24 = .ok (.if_icmp .ne 6, 3) := by decide +kernel
theorem dX6_bypass_27 : decode cX6_bypass 27 = .ok (.bipush (-3), 2) := by decide +kernel
theorem dX6_bypass_29 : decode cX6_bypass 29 = .ok (.ireturn, 1) := by decide +kernel
theorem dX6_bypass_30 : decode cX6_bypass 30 = .ok (.aload_n 0, 1) := by decide +kernel
theorem dX6_bypass_31 : decode cX6_bypass 31 = .ok (.getfield 34, 3) := by decide +kernel
theorem dX6_bypass_34 : decode cX6_bypass 34 = .ok (.aload_n 0, 1) := by decide +kernel
theorem dX6_bypass_35 : decode cX6_bypass 35 = .ok (.getfield 100, 3) := by decide +kernel
theorem dX6_bypass_38 : decode cX6_bypass 38 = .ok (.iload_n 1, 1) := by decide +kernel
theorem dX6_bypass_39 : decode cX6_bypass 39 = .ok (.iastore, 1) := by decide +kernel
theorem dX6_bypass_40 : decode cX6_bypass 40 = .ok (.aload_n 0, 1) := by decide +kernel
theorem dX6_bypass_41 : decode cX6_bypass 41 = .ok (.getfield 37, 3) := by decide +kernel
theorem dX6_bypass_44 : decode cX6_bypass 44 = .ok (.aload_n 0, 1) := by decide +kernel
theorem dX6_bypass_45 : decode cX6_bypass 45 = .ok (.getfield 100, 3) := by decide +kernel
theorem dX6_bypass_48 : decode cX6_bypass 48 = .ok (.iload_n 2, 1) := by decide +kernel
theorem dX6_bypass_49 : decode cX6_bypass 49 = .ok (.iastore, 1) := by decide +kernel
theorem dX6_bypass_50 : decode cX6_bypass 50 = .ok (.aload_n 0, 1) := by decide +kernel
theorem dX6_bypass_51 : decode cX6_bypass 51 = .ok (.getfield 40, 3) := by decide +kernel
theorem dX6_bypass_54 : decode cX6_bypass 54 = .ok (.aload_n 0, 1) := by decide +kernel
theorem dX6_bypass_55 : decode cX6_bypass 55 = .ok (.getfield 100, 3) := by decide +kernel
theorem dX6_bypass_58 : decode cX6_bypass 58 = .ok (.iload_n 3, 1) := by decide +kernel
theorem dX6_bypass_59 : decode cX6_bypass 59 = .ok (.iastore, 1) := by decide +kernel
theorem dX6_bypass_60 : decode cX6_bypass 60 = .ok (.aload_n 0, 1) := by decide +kernel
theorem dX6_bypass_61 : decode cX6_bypass 61 = .ok (.dup, 1) := by decide +kernel
theorem dX6_bypass_62 : decode cX6_bypass 62 = .ok (.getfield 100, 3) := by decide +kernel
theorem dX6_bypass_65 : decode cX6_bypass 65 = .ok (.iconst 1, 1) := by decide +kernel
theorem dX6_bypass_66 : decode cX6_bypass 66 = .ok (.iadd, 1) := by decide +kernel
theorem dX6_bypass_67 : decode cX6_bypass 67 = .ok (.putfield 100, 3) := by decide +kernel
theorem dX6_bypass_70 : decode cX6_bypass 70 = .ok (.aload_n 0, 1) := by decide +kernel
theorem dX6_bypass_71 : decode cX6_bypass 71 = .ok (.getfield 100, 3) := by decide +kernel
theorem dX6_bypass_74 : decode cX6_bypass 74 = .ok (.ireturn, 1) := by decide +kernel
theorem dX6_isBypassed_0 : decode cX6_isBypassed 0 = .ok (.iconst 0, 1) := by decide +kernel
theorem dX6_isBypassed_1 : decode cX6_isBypassed 1 = .ok (.istore_n 3, 1) := by decide +kernel
theorem dX6_isBypassed_2 : decode cX6_isBypassed 2 = .ok (.iconst 0, 1) := by decide +kernel
theorem dX6_isBypassed_3 : decode cX6_isBypassed 3 = .ok (.istore 4, 2) := by decide +kernel
theorem dX6_isBypassed_5 : decode cX6_isBypassed 5 = .ok (.iload 4, 2) := by decide +kernel
theorem dX6_isBypassed_7 : decode cX6_isBypassed 7 = .ok (.aload_n 0, 1) := by decide +kernel
theorem dX6_isBypassed_8 : decode cX6_isBypassed 8 = .ok (.getfield 100, 3) := by decide +kernel
theorem dX6_isBypassed_11 : decode cX6_isBypassed 11 = .ok (.if_icmp .ge 54, 3) := by decide +kernel
theorem dX6_isBypassed_14 : decode cX6_isBypassed 14 = .ok (.iload_n 3, 1) := by decide +kernel
theorem dX6_isBypassed_15 : decode cX6_isBypassed 15 = .ok (.ifCond .ne 38, 3) := by decide +kernel
theorem dX6_isBypassed_18 : decode cX6_isBypassed 18 = .ok (.aload_n 0, 1) := by decide +kernel
theorem dX6_isBypassed_19 : decode cX6_isBypassed 19 = .ok (.getfield 34, 3) := by decide +kernel
theorem dX6_isBypassed_22 : decode cX6_isBypassed 22 = .ok (.iload 4, 2) := by decide +kernel
theorem dX6_isBypassed_24 : decode cX6_isBypassed 24 = .ok (.iaload, 1) := by decide +kernel
theorem dX6_isBypassed_25 : decode cX6_isBypassed 25 = .ok (.iload_n 1, 1) := by decide +kernel
theorem dX6_isBypassed_26 : decode cX6_isBypassed 26 = .ok (.if_icmp .ne 31, 3) := by decide +kernel
theorem dX6_isBypassed_29 : decode cX6_isBypassed 29 = .ok (.iload_n 2, 1) := by decide +kernel
theorem dX6_isBypassed_30 : decode cX6_isBypassed 30 = .ok (.i2l, 1) := by decide +kernel
theorem dX6_isBypassed_31 : decode cX6_isBypassed 31 = .ok (.aload_n 0, 1) := by decide +kernel
theorem dX6_isBypassed_32 : decode cX6_isBypassed 32 = .ok (.getfield 37, 3) := by decide +kernel
theorem dX6_isBypassed_35 : decode cX6_isBypassed 35 = .ok (.iload 4, 2) := by decide +kernel
theorem dX6_isBypassed_37 : decode cX6_isBypassed 37 = .ok (.iaload, 1) := by decide +kernel
theorem dX6_isBypassed_38 : decode cX6_isBypassed 38 = .ok (.i2l, 1) := by decide +kernel
theorem dX6_isBypassed_39 : decode cX6_isBypassed 39 = .ok (.aload_n 0, 1) := by decide +kernel
theorem dX6_isBypassed_40 : decode cX6_isBypassed 40 = .ok (.getfield 40, 3) := by decide +kernel
theorem dX6_isBypassed_43 : decode cX6_isBypassed 43 = .ok (.iload 4, 2) := by decide +kernel
theorem dX6_isBypassed_45 : decode cX6_isBypassed 45 = .ok (.iaload, 1) := by decide +kernel
theorem dX6_isBypassed_46 : decode cX6_isBypassed 46 = .ok (.i2l, 1) := by decide +kernel
theorem dX6_isBypassed_47 : decode cX6_isBypassed 47 = .ok (.invokestatic 78, 3) := by decide +kernel
theorem dX6_isBypassed_50 : decode cX6_isBypassed 50 = .ok (.ifCond .eq 7, 3) := by decide +kernel
theorem dX6_isBypassed_53 : decode cX6_isBypassed 53 = .ok (.iconst 1, 1) := by decide +kernel
theorem dX6_isBypassed_54 : decode cX6_isBypassed 54 = .ok (.goto 4, 3) := by decide +kernel
theorem dX6_isBypassed_57 : decode cX6_isBypassed 57 = .ok (.iconst 0, 1) := by decide +kernel
theorem dX6_isBypassed_58 : decode cX6_isBypassed 58 = .ok (.istore_n 3, 1) := by decide +kernel
theorem dX6_isBypassed_59 : decode cX6_isBypassed 59 = .ok (.iinc 4 1, 3) := by decide +kernel
theorem dX6_isBypassed_62 : decode cX6_isBypassed 62 = .ok (.goto (-57), 3) := by decide +kernel
theorem dX6_isBypassed_65 : decode cX6_isBypassed 65 = .ok (.iload_n 3, 1) := by decide +kernel
theorem dX6_isBypassed_66 : decode cX6_isBypassed 66 = .ok (.ireturn, 1) := by decide +kernel
theorem dX6_bypassed_0 : decode cX6_bypassed 0 = .ok (.aload_n 0, 1) := by decide +kernel
theorem dX6_bypassed_1 : decode cX6_bypassed 1 = .ok (.iload_n 1, 1) := by decide +kernel
theorem dX6_bypassed_2 : decode cX6_bypassed 2 = .ok (.invokevirtual 89, 3) := by decide +kernel
theorem dX6_bypassed_5 : decode cX6_bypassed 5 = .ok (.ifCond .eq 11, 3) := by decide +kernel
theorem dX6_bypassed_8 : decode cX6_bypassed 8 = .ok (.iload_n 2, 1) := by decide +kernel
theorem dX6_bypassed_9 : decode cX6_bypassed 9 = .ok (.iload_n 3, 1) := by decide +kernel
theorem dX6_bypassed_10 : decode cX6_bypassed 10 = .ok (.invokestatic 96, 3) := by decide +kernel
theorem dX6_bypassed_13 : decode cX6_bypassed 13 = .ok (.ifCond .ne 5, 3) := by decide +kernel
theorem dX6_bypassed_16 : decode cX6_bypassed 16 = .ok (.iconst (-1), 1) := by decide +kernel
theorem dX6_bypassed_17 : decode cX6_bypassed 17 = .ok (.ireturn, 1) := by decide +kernel
theorem dX6_bypassed_18 : decode cX6_bypassed 18 = .ok (.iconst 0, 1) := by decide +kernel
theorem dX6_bypassed_19 : decode cX6_bypassed 19 = .ok (.istore 4, 2) := by decide +kernel
theorem dX6_bypassed_21 : decode cX6_bypassed 21 = .ok (.iload_n 2, 1) := by decide +kernel
theorem dX6_bypassed_22 : decode cX6_bypassed 22 = .ok (.istore 5, 2) := by decide +kernel
theorem dX6_bypassed_24 : decode cX6_bypassed 24 = .ok (.iload 5, 2) := by decide +kernel
theorem dX6_bypassed_26 : decode cX6_bypassed 26 = .ok (.iload_n 3, 1) := by decide +kernel
theorem dX6_bypassed_27 : decode cX6_bypassed 27 = .ok (.if_icmp .gt 29, 3) := by decide +kernel
theorem dX6_bypassed_30 : decode cX6_bypassed 30 = .ok (.iload 4, 2) := by decide +kernel
theorem dX6_bypassed_32 : decode cX6_bypassed 32 = .ok (.aload_n 0, 1) := by decide +kernel
theorem dX6_bypassed_33 : decode cX6_bypassed 33 = .ok (.iload_n 1, 1) := by decide +kernel
theorem dX6_bypassed_34 : decode cX6_bypassed 34 = .ok (.iload 5, 2) := by decide +kernel
theorem dX6_bypassed_36 : decode cX6_bypassed 36 = .ok (.invokevirtual 103, 3) := by decide +kernel
theorem dX6_bypassed_39 : decode cX6_bypassed 39 = .ok (.ifCond .eq 7, 3) := by decide +kernel
theorem dX6_bypassed_42 : decode cX6_bypassed 42 = .ok (.iconst 1, 1) := by decide +kernel
theorem dX6_bypassed_43 : decode cX6_bypassed 43 = .ok (.goto 4, 3) := by decide +kernel
theorem dX6_bypassed_46 : decode cX6_bypassed 46 = .ok (.iconst 0, 1) := by decide +kernel
theorem dX6_bypassed_47 : decode cX6_bypassed 47 = .ok (.iadd, 1) := by decide +kernel
theorem dX6_bypassed_48 : decode cX6_bypassed 48 = .ok (.istore 4, 2) := by decide +kernel
theorem dX6_bypassed_50 : decode cX6_bypassed 50 = .ok (.iinc 5 1, 3) := by decide +kernel
theorem dX6_bypassed_53 : decode cX6_bypassed 53 = .ok (.goto (-29), 3) := by decide +kernel
theorem dX6_bypassed_56 : decode cX6_bypassed 56 = .ok (.iload 4, 2) := by decide +kernel
theorem dX6_bypassed_58 : decode cX6_bypassed 58 = .ok (.ireturn, 1) := by decide +kernel
theorem dX6_bits_0 : decode cX6_bits 0 = .ok (.iconst 0, 1) := by decide +kernel
theorem dX6_bits_1 : decode cX6_bits 1 = .ok (.istore_n 1, 1) := by decide +kernel
theorem dX6_bits_2 : decode cX6_bits 2 = .ok (.iconst 0, 1) := by decide +kernel
theorem dX6_bits_3 : decode cX6_bits 3 = .ok (.istore_n 2, 1) := by decide +kernel
theorem dX6_bits_4 : decode cX6_bits 4 = .ok (.iload_n 2, 1) := by decide +kernel
theorem dX6_bits_5 : decode cX6_bits 5 = .ok (.bipush 12, 2) := by decide +kernel
theorem dX6_bits_7 : decode cX6_bits 7 = .ok (.if_icmp .ge 17, 3) := by decide +kernel
theorem dX6_bits_10 : decode cX6_bits 10 = .ok (.iload_n 1, 1) := by decide +kernel
theorem dX6_bits_11 : decode cX6_bits 11 = .ok (.iload_n 0, 1) := by decide +kernel
theorem dX6_bits_12 : decode cX6_bits 12 = .ok (.iload_n 2, 1) := by decide +kernel
theorem dX6_bits_13 : decode cX6_bits 13 = .ok (.ishr, 1) := by decide +kernel
theorem dX6_bits_14 : decode cX6_bits 14 = .ok (.iconst 1, 1) := by decide +kernel
theorem dX6_bits_15 : decode cX6_bits 15 = .ok (.iand, 1) := by decide +kernel
theorem dX6_bits_16 : decode cX6_bits 16 = .ok (.iadd, 1) := by decide +kernel
theorem dX6_bits_17 : decode cX6_bits 17 = .ok (.istore_n 1, 1) := by decide +kernel
theorem dX6_bits_18 : decode cX6_bits 18 = .ok (.iinc 2 1, 3) := by decide +kernel
theorem dX6_bits_21 : decode cX6_bits 21 = .ok (.goto (-17), 3) := by decide +kernel
theorem dX6_bits_24 : decode cX6_bits 24 = .ok (.iload_n 1, 1) := by decide +kernel
theorem dX6_bits_25 : decode cX6_bits 25 = .ok (.ireturn, 1) := by decide +kernel
theorem dX6_group_0 : decode cX6_group 0 = .ok (.iload_n 1, 1) := by decide +kernel
theorem dX6_group_1 : decode cX6_group 1 = .ok (.i2l, 1) := by decide +kernel
theorem dX6_group_2 : decode cX6_group 2 = .ok (.lconst 0, 1) := by decide +kernel
theorem dX6_group_3 : decode cX6_group 3 = .ok (.ldc2_w 87, 3) := by decide +kernel
theorem dX6_group_6 : decode cX6_group 6 = .ok (.invokestatic 78, 3) := by decide +kernel
theorem dX6_group_9 : decode cX6_group 9 = .ok (.ifCond .eq 29, 3) := by decide +kernel
theorem dX6_group_12 : decode cX6_group 12 = .ok (.iload_n 2, 1) := by decide +kernel
theorem dX6_group_13 : decode cX6_group 13 = .ok (.i2l, 1) := by decide +kernel
theorem dX6_group_14 : decode cX6_group 14 = .ok (.lconst 0, 1) := by decide +kernel
theorem dX6_group_15 : decode cX6_group 15 = .ok (.iconst 1, 1) := by decide +kernel
theorem dX6_group_16 : decode cX6_group 16 = .ok (.aload_n 0, 1) := by decide +kernel
theorem dX6_group_17 : decode cX6_group 17 = .ok (.getfield 74, 3) := by decide +kernel
theorem dX6_group_20 : decode cX6_group 20 = .ok (.ishl, 1) := by decide +kernel
theorem dX6_group_21 : decode cX6_group 21 = .ok (.iconst 1, 1) := by decide +kernel
theorem dX6_group_22 : decode cX6_group 22 = .ok (.isub, 1) := by decide +kernel
theorem dX6_group_23 : decode cX6_group 23 = .ok (.i2l, 1) := by decide +kernel
theorem dX6_group_24 : decode cX6_group 24 = .ok (.invokestatic 78, 3) := by decide +kernel
theorem dX6_group_27 : decode cX6_group 27 = .ok (.ifCond .eq 11, 3) := by decide +kernel
theorem dX6_group_30 : decode cX6_group 30 = .ok (.iload_n 2, 1) := by decide +kernel
theorem dX6_group_31 : decode cX6_group 31 = .ok (.invokestatic 106, 3) := by decide +kernel
theorem dX6_group_34 : decode cX6_group 34 = .ok (.iconst 2, 1) := by decide +kernel
theorem dX6_group_35 : decode cX6_group 35 = .ok (.if_icmp .ge 5, 3) := by decide +kernel
theorem dX6_group_38 : decode cX6_group 38 = .ok (.iconst (-1), 1) := by decide +kernel
theorem dX6_group_39 : decode cX6_group 39 = .ok (.ireturn, 1) := by decide +kernel
theorem dX6_group_40 : decode cX6_group 40 = .ok (.aload_n 0, 1) := by decide +kernel
theorem dX6_group_41 : decode cX6_group 41 = .ok (.getfield 110, 3) := by decide +kernel
theorem dX6_group_44 : decode cX6_group 44 = .ok (.iconst 4, 1) := by decide +kernel
theorem dX6_group_45 : decode cX6_group 45 = .ok (.if_icmp .ne 6, 3) := by decide +kernel
theorem dX6_group_48 : decode cX6_group 48 = .ok (.bipush (-3), 2) := by decide +kernel
theorem dX6_group_50 : decode cX6_group 50 = .ok (.ireturn, 1) := by decide +kernel
theorem dX6_group_51 : decode cX6_group 51 = .ok (.aload_n 0, 1) := by decide +kernel
theorem dX6_group_52 : decode cX6_group 52 = .ok (.getfield 43, 3) := by decide +kernel
theorem dX6_group_55 : decode cX6_group 55 = .ok (.aload_n 0, 1) := by decide +kernel
theorem dX6_group_56 : decode cX6_group 56 = .ok (.getfield 110, 3) := by decide +kernel
theorem dX6_group_59 : decode cX6_group 59 = .ok (.iload_n 1, 1) := by decide +kernel
theorem dX6_group_60 : decode cX6_group 60 = .ok (.iastore, 1) := by decide +kernel
theorem dX6_group_61 : decode cX6_group 61 = .ok (.aload_n 0, 1) := by decide +kernel
theorem dX6_group_62 : decode cX6_group 62 = .ok (.getfield 46, 3) := by decide +kernel
theorem dX6_group_65 : decode cX6_group 65 = .ok (.aload_n 0, 1) := by decide +kernel
theorem dX6_group_66 : decode cX6_group 66 = .ok (.getfield 110, 3) := by decide +kernel
theorem dX6_group_69 : decode cX6_group 69 = .ok (.iload_n 2, 1) := by decide +kernel
theorem dX6_group_70 : decode cX6_group 70 = .ok (.iastore, 1) := by decide +kernel
theorem dX6_group_71 : decode cX6_group 71 = .ok (.aload_n 0, 1) := by decide +kernel
theorem dX6_group_72 : decode cX6_group 72 = .ok (.dup, 1) := by decide +kernel
theorem dX6_group_73 : decode cX6_group 73 = .ok (.getfield 110, 3) := by decide +kernel
theorem dX6_group_76 : decode cX6_group 76 = .ok (.iconst 1, 1) := by decide +kernel
theorem dX6_group_77 : decode cX6_group 77 = .ok (.iadd, 1) := by decide +kernel
theorem dX6_group_78 : decode cX6_group 78 = .ok (.putfield 110, 3) := by decide +kernel
theorem dX6_group_81 : decode cX6_group 81 = .ok (.aload_n 0, 1) := by decide +kernel
theorem dX6_group_82 : decode cX6_group 82 = .ok (.getfield 110, 3) := by decide +kernel
theorem dX6_group_85 : decode cX6_group 85 = .ok (.iconst 1, 1) := by decide +kernel
theorem dX6_group_86 : decode cX6_group 86 = .ok (.isub, 1) := by decide +kernel
theorem dX6_group_87 : decode cX6_group 87 = .ok (.ireturn, 1) := by decide +kernel
theorem dX6_isInput_0 : decode cX6_isInput 0 = .ok (.aload_n 0, 1) := by decide +kernel
theorem dX6_isInput_1 : decode cX6_isInput 1 = .ok (.iload_n 1, 1) := by decide +kernel
theorem dX6_isInput_2 : decode cX6_isInput 2 = .ok (.invokevirtual 89, 3) := by decide +kernel
theorem dX6_isInput_5 : decode cX6_isInput 5 = .ok (.ifCond .ne 22, 3) := by decide +kernel
theorem dX6_isInput_8 : decode cX6_isInput 8 = .ok (.iload_n 1, 1) := by decide +kernel
theorem dX6_isInput_9 : decode cX6_isInput 9 = .ok (.i2l, 1) := by decide +kernel
theorem dX6_isInput_10 : decode cX6_isInput 10 = .ok (.ldc2_w 113, 3) := by decide +kernel
theorem dX6_isInput_13 : decode cX6_isInput 13 = .ok (.bipush 11, 2) := by decide +kernel
theorem dX6_isInput_15 : decode cX6_isInput 15 = .ok (.aload_n 0, 1) := by decide +kernel
theorem dX6_isInput_16 : decode cX6_isInput 16 = .ok (.getfield 82, 3) := by decide +kernel
theorem dX6_isInput_19 : decode cX6_isInput 19 = .ok (.iadd, 1) := by decide +kernel
theorem dX6_isInput_20 : decode cX6_isInput 20 = .ok (.i2l, 1) := by decide +kernel
theorem dX6_isInput_21 : decode cX6_isInput 21 = .ok (.invokestatic 78, 3) := by decide +kernel
theorem dX6_isInput_24 : decode cX6_isInput 24 = .ok (.ifCond .eq 7, 3) := by decide +kernel
theorem dX6_isInput_27 : decode cX6_isInput 27 = .ok (.iconst 1, 1) := by decide +kernel
theorem dX6_isInput_28 : decode cX6_isInput 28 = .ok (.goto 4, 3) := by decide +kernel
theorem dX6_isInput_31 : decode cX6_isInput 31 = .ok (.iconst 0, 1) := by decide +kernel
theorem dX6_isInput_32 : decode cX6_isInput 32 = .ok (.ireturn, 1) := by decide +kernel
theorem dX6_vote_0 : decode cX6_vote 0 = .ok (.iload_n 2, 1) := by decide +kernel
theorem dX6_vote_1 : decode cX6_vote 1 = .ok (.i2l, 1) := by decide +kernel
theorem dX6_vote_2 : decode cX6_vote 2 = .ok (.lconst 1, 1) := by decide +kernel
theorem dX6_vote_3 : decode cX6_vote 3 = .ok (.ldc2_w 115, 3) := by decide +kernel
theorem dX6_vote_6 : decode cX6_vote 6 = .ok (.invokestatic 78, 3) := by decide +kernel
theorem dX6_vote_9 : decode cX6_vote 9 = .ok (.ifCond .eq 68, 3) := by decide +kernel
theorem dX6_vote_12 : decode cX6_vote 12 = .ok (.iload_n 1, 1) := by decide +kernel
theorem dX6_vote_13 : decode cX6_vote 13 = .ok (.i2l, 1) := by decide +kernel
theorem dX6_vote_14 : decode cX6_vote 14 = .ok (.lconst 1, 1) := by decide +kernel
theorem dX6_vote_15 : decode cX6_vote 15 = .ok (.iload_n 2, 1) := by decide +kernel
theorem dX6_vote_16 : decode cX6_vote 16 = .ok (.i2l, 1) := by decide +kernel
theorem dX6_vote_17 : decode cX6_vote 17 = .ok (.invokestatic 78, 3) := by decide +kernel
theorem dX6_vote_20 : decode cX6_vote 20 = .ok (.ifCond .eq 57, 3) := by decide +kernel
theorem dX6_vote_23 : decode cX6_vote 23 = .ok (.aload_n 0, 1) := by decide +kernel
theorem dX6_vote_24 : decode cX6_vote 24 = .ok (.iload_n 3, 1) := by decide +kernel
theorem dX6_vote_25 : decode cX6_vote 25 = .ok (.invokevirtual 117, 3) := by decide +kernel
theorem dX6_vote_28 : decode cX6_vote 28 = .ok (.ifCond .eq 49, 3) := by decide +kernel
theorem dX6_vote_31 : decode cX6_vote 31 = .ok (.iload_n 2, 1) := by decide +kernel
theorem dX6_vote_32 : decode cX6_vote 32 = .ok (.iconst 2, 1) := by decide +kernel
theorem dX6_vote_33 : decode cX6_vote 33 = .ok (.if_icmp .lt 12, 3) := by decide +kernel
theorem dX6_vote_36 : decode cX6_vote 36 = .ok (.aload_n 0, 1) := by decide +kernel
theorem dX6_vote_37 : decode cX6_vote 37 = .ok (.iload 4, 2) := by decide +kernel
theorem dX6_vote_39 : decode cX6_vote 39 = .ok (.invokevirtual 117, 3) := by decide +kernel
theorem dX6_vote_42 : decode cX6_vote 42 = .ok (.ifCond .eq 35, 3) := by decide +kernel
theorem dX6_vote_45 : decode cX6_vote 45 = .ok (.iload_n 2, 1) := by decide +kernel
theorem dX6_vote_46 : decode cX6_vote 46 = .ok (.iconst 3, 1) := by decide +kernel
theorem dX6_vote_47 : decode cX6_vote 47 = .ok (.if_icmp .lt 12, 3) := by decide +kernel
theorem dX6_vote_50 : decode cX6_vote 50 = .ok (.aload_n 0, 1) := by decide +kernel
theorem dX6_vote_51 : decode cX6_vote 51 = .ok (.iload 5, 2) := by decide +kernel
theorem dX6_vote_53 : decode cX6_vote 53 = .ok (.invokevirtual 117, 3) := by decide +kernel
theorem dX6_vote_56 : decode cX6_vote 56 = .ok (.ifCond .eq 21, 3) := by decide +kernel
theorem dX6_vote_59 : decode cX6_vote 59 = .ok (.iload_n 2, 1) := by decide +kernel
theorem dX6_vote_60 : decode cX6_vote 60 = .ok (.iconst 4, 1) := by decide +kernel
theorem dX6_vote_61 : decode cX6_vote 61 = .ok (.if_icmp .lt 12, 3) := by decide +kernel
theorem dX6_vote_64 : decode cX6_vote 64 = .ok (.aload_n 0, 1) := by decide +kernel
theorem dX6_vote_65 : decode cX6_vote 65 = .ok (.iload 6, 2) := by decide +kernel
theorem dX6_vote_67 : decode cX6_vote 67 = .ok (.invokevirtual 117, 3) := by decide +kernel
theorem dX6_vote_70 : decode cX6_vote 70 = .ok (.ifCond .eq 7, 3) := by decide +kernel
theorem dX6_vote_73 : decode cX6_vote 73 = .ok (.iconst 1, 1) := by decide +kernel
theorem dX6_vote_74 : decode cX6_vote 74 = .ok (.goto 4, 3) := by decide +kernel
theorem dX6_vote_77 : decode cX6_vote 77 = .ok (.iconst 0, 1) := by decide +kernel
theorem dX6_vote_78 : decode cX6_vote 78 = .ok (.istore 7, 2) := by decide +kernel
theorem dX6_vote_80 : decode cX6_vote 80 = .ok (.iload 7, 2) := by decide +kernel
theorem dX6_vote_82 : decode cX6_vote 82 = .ok (.ifCond .ne 5, 3) := by decide +kernel
theorem dX6_vote_85 : decode cX6_vote 85 = .ok (.iconst (-1), 1) := by decide +kernel
theorem dX6_vote_86 : decode cX6_vote 86 = .ok (.ireturn, 1) := by decide +kernel
theorem dX6_vote_87 : decode cX6_vote 87 = .ok (.aload_n 0, 1) := by decide +kernel
theorem dX6_vote_88 : decode cX6_vote 88 = .ok (.getfield 82, 3) := by decide +kernel
theorem dX6_vote_91 : decode cX6_vote 91 = .ok (.bipush 12, 2) := by decide +kernel
theorem dX6_vote_93 : decode cX6_vote 93 = .ok (.if_icmp .ne 6, 3) := by decide +kernel
theorem dX6_vote_96 : decode cX6_vote 96 = .ok (.bipush (-3), 2) := by decide +kernel
theorem dX6_vote_98 : decode cX6_vote 98 = .ok (.ireturn, 1) := by decide +kernel
theorem dX6_vote_99 : decode cX6_vote 99 = .ok (.aload_n 0, 1) := by decide +kernel
theorem dX6_vote_100 : decode cX6_vote 100 = .ok (.getfield 49, 3) := by decide +kernel
theorem dX6_vote_103 : decode cX6_vote 103 = .ok (.aload_n 0, 1) := by decide +kernel
theorem dX6_vote_104 : decode cX6_vote 104 = .ok (.getfield 82, 3) := by decide +kernel
theorem dX6_vote_107 : decode cX6_vote 107 = .ok (.iload_n 1, 1) := by decide +kernel
theorem dX6_vote_108 : decode cX6_vote 108 = .ok (.iastore, 1) := by decide +kernel
theorem dX6_vote_109 : decode cX6_vote 109 = .ok (.aload_n 0, 1) := by decide +kernel
theorem dX6_vote_110 : decode cX6_vote 110 = .ok (.getfield 52, 3) := by decide +kernel
theorem dX6_vote_113 : decode cX6_vote 113 = .ok (.aload_n 0, 1) := by decide +kernel
theorem dX6_vote_114 : decode cX6_vote 114 = .ok (.getfield 82, 3) := by decide +kernel
theorem dX6_vote_117 : decode cX6_vote 117 = .ok (.iload_n 2, 1) := by decide +kernel
theorem dX6_vote_118 : decode cX6_vote 118 = .ok (.iastore, 1) := by decide +kernel
theorem dX6_vote_119 : decode cX6_vote 119 = .ok (.aload_n 0, 1) := by decide +kernel
theorem dX6_vote_120 : decode cX6_vote 120 = .ok (.getfield 55, 3) := by decide +kernel
theorem dX6_vote_123 : decode cX6_vote 123 = .ok (.iconst 4, 1) := by decide +kernel
theorem dX6_vote_124 : decode cX6_vote 124 = .ok (.aload_n 0, 1) := by decide +kernel
theorem dX6_vote_125 : decode cX6_vote 125 = .ok (.getfield 82, 3) := by decide +kernel
theorem dX6_vote_128 : decode cX6_vote 128 = .ok (.imul, 1) := by decide +kernel
theorem dX6_vote_129 : decode cX6_vote 129 = .ok (.iload_n 3, 1) := by decide +kernel
theorem dX6_vote_130 : decode cX6_vote 130 = .ok (.iastore, 1) := by decide +kernel
theorem dX6_vote_131 : decode cX6_vote 131 = .ok (.aload_n 0, 1) := by decide +kernel
theorem dX6_vote_132 : decode cX6_vote 132 = .ok (.getfield 55, 3) := by decide +kernel
theorem dX6_vote_135 : decode cX6_vote 135 = .ok (.iconst 4, 1) := by decide +kernel
theorem dX6_vote_136 : decode cX6_vote 136 = .ok (.aload_n 0, 1) := by decide +kernel
theorem dX6_vote_137 : decode cX6_vote 137 = .ok (.getfield 82, 3) := by decide +kernel
theorem dX6_vote_140 : decode cX6_vote 140 = .ok (.imul, 1) := by decide +kernel
theorem dX6_vote_141 : decode cX6_vote 141 = .ok (.iconst 1, 1) := by decide +kernel
theorem dX6_vote_142 : decode cX6_vote 142 = .ok (.iadd, 1) := by decide +kernel
theorem dX6_vote_143 : decode cX6_vote 143 = .ok (.iload 4, 2) := by decide +kernel
theorem dX6_vote_145 : decode cX6_vote 145 = .ok (.iastore, 1) := by decide +kernel
theorem dX6_vote_146 : decode cX6_vote 146 = .ok (.aload_n 0, 1) := by decide +kernel
theorem dX6_vote_147 : decode cX6_vote 147 = .ok (.getfield 55, 3) := by decide +kernel
theorem dX6_vote_150 : decode cX6_vote 150 = .ok (.iconst 4, 1) := by decide +kernel
theorem dX6_vote_151 : decode cX6_vote 151 = .ok (.aload_n 0, 1) := by decide +kernel
theorem dX6_vote_152 : decode cX6_vote 152 = .ok (.getfield 82, 3) := by decide +kernel
theorem dX6_vote_155 : decode cX6_vote 155 = .ok (.imul, 1) := by decide +kernel
theorem dX6_vote_156 : decode cX6_vote 156 = .ok (.iconst 2, 1) := by decide +kernel
theorem dX6_vote_157 : decode cX6_vote 157 = .ok (.iadd, 1) := by decide +kernel
theorem dX6_vote_158 : decode cX6_vote 158 = .ok (.iload 5, 2) := by decide +kernel
theorem dX6_vote_160 : decode cX6_vote 160 = .ok (.iastore, 1) := by decide +kernel
theorem dX6_vote_161 : decode cX6_vote 161 = .ok (.aload_n 0, 1) := by decide +kernel
theorem dX6_vote_162 : decode cX6_vote 162 = .ok (.getfield 55, 3) := by decide +kernel
theorem dX6_vote_165 : decode cX6_vote 165 = .ok (.iconst 4, 1) := by decide +kernel
theorem dX6_vote_166 : decode cX6_vote 166 = .ok (.aload_n 0, 1) := by decide +kernel
theorem dX6_vote_167 : decode cX6_vote 167 = .ok (.getfield 82, 3) := by decide +kernel
theorem dX6_vote_170 : decode cX6_vote 170 = .ok (.imul, 1) := by decide +kernel
theorem dX6_vote_171 : decode cX6_vote 171 = .ok (.iconst 3, 1) := by decide +kernel
theorem dX6_vote_172 : decode cX6_vote 172 = .ok (.iadd, 1) := by decide +kernel
theorem dX6_vote_173 : decode cX6_vote 173 = .ok (.iload 6, 2) := by decide +kernel
theorem dX6_vote_175 : decode cX6_vote 175 = .ok (.iastore, 1) := by decide +kernel
theorem dX6_vote_176 : decode cX6_vote 176 = .ok (.aload_n 0, 1) := by decide +kernel
theorem dX6_vote_177 : decode cX6_vote 177 = .ok (.dup, 1) := by decide +kernel
theorem dX6_vote_178 : decode cX6_vote 178 = .ok (.getfield 82, 3) := by decide +kernel
theorem dX6_vote_181 : decode cX6_vote 181 = .ok (.iconst 1, 1) := by decide +kernel
theorem dX6_vote_182 : decode cX6_vote 182 = .ok (.iadd, 1) := by decide +kernel
theorem dX6_vote_183 : decode cX6_vote 183 = .ok (.putfield 82, 3) := by decide +kernel
theorem dX6_vote_186 : decode cX6_vote 186 = .ok (.aload_n 0, 1) := by decide +kernel
theorem dX6_vote_187 : decode cX6_vote 187 = .ok (.getfield 82, 3) := by decide +kernel
theorem dX6_vote_190 : decode cX6_vote 190 = .ok (.iconst 1, 1) := by decide +kernel
theorem dX6_vote_191 : decode cX6_vote 191 = .ok (.isub, 1) := by decide +kernel
theorem dX6_vote_192 : decode cX6_vote 192 = .ok (.ireturn, 1) := by decide +kernel
theorem dX6_shareOf_0 : decode cX6_shareOf 0 = .ok (.aload_n 0, 1) := by decide +kernel
theorem dX6_shareOf_1 : decode cX6_shareOf 1 = .ok (.getfield 31, 3) := by decide +kernel
theorem dX6_shareOf_4 : decode cX6_shareOf 4 = .ok (.iload_n 1, 1) := by decide +kernel
theorem dX6_shareOf_5 : decode cX6_shareOf 5 = .ok (.iaload, 1) := by decide +kernel
theorem dX6_shareOf_6 : decode cX6_shareOf 6 = .ok (.ifCond .lt 10, 3) := by decide +kernel
theorem dX6_shareOf_9 : decode cX6_shareOf 9 = .ok (.aload_n 0, 1) := by decide +kernel
theorem dX6_shareOf_10 : decode cX6_shareOf 10 = .ok (.getfield 31, 3) := by decide +kernel
theorem dX6_shareOf_13 : decode cX6_shareOf 13 = .ok (.iload_n 1, 1) := by decide +kernel
theorem dX6_shareOf_14 : decode cX6_shareOf 14 = .ok (.iaload, 1) := by decide +kernel
theorem dX6_shareOf_15 : decode cX6_shareOf 15 = .ok (.ireturn, 1) := by decide +kernel
theorem dX6_shareOf_16 : decode cX6_shareOf 16 = .ok (.aload_n 0, 1) := by decide +kernel
theorem dX6_shareOf_17 : decode cX6_shareOf 17 = .ok (.iload_n 1, 1) := by decide +kernel
theorem dX6_shareOf_18 : decode cX6_shareOf 18 = .ok (.iload_n 2, 1) := by decide +kernel
theorem dX6_shareOf_19 : decode cX6_shareOf 19 = .ok (.invokevirtual 103, 3) := by decide +kernel
theorem dX6_shareOf_22 : decode cX6_shareOf 22 = .ok (.ifCond .eq 6, 3) := by decide +kernel
theorem dX6_shareOf_25 : decode cX6_shareOf 25 = .ok (.bipush 64, 2) := by decide +kernel
theorem dX6_shareOf_27 : decode cX6_shareOf 27 = .ok (.ireturn, 1) := by decide +kernel
theorem dX6_shareOf_28 : decode cX6_shareOf 28 = .ok (.iconst 0, 1) := by decide +kernel
theorem dX6_shareOf_29 : decode cX6_shareOf 29 = .ok (.istore_n 3, 1) := by decide +kernel
theorem dX6_shareOf_30 : decode cX6_shareOf 30 = .ok (.bipush 12, 2) := by decide +kernel
theorem dX6_shareOf_32 : decode cX6_shareOf 32 = .ok (.iload_n 1, 1) := by decide +kernel
theorem dX6_shareOf_33 : decode cX6_shareOf 33 = .ok (.imul, 1) := by decide +kernel
theorem dX6_shareOf_34 : decode cX6_shareOf 34 = .ok (.istore 4, 2) := by decide +kernel
theorem dX6_shareOf_36 : decode cX6_shareOf 36 = .ok (.iload 4, 2) := by decide +kernel
theorem dX6_shareOf_38 : decode cX6_shareOf 38 = .ok (.bipush 12, 2) := by decide +kernel
theorem dX6_shareOf_40 : decode cX6_shareOf 40 = .ok (.iload_n 1, 1) := by decide +kernel
theorem dX6_shareOf_41 : decode cX6_shareOf 41 = .ok (.imul, 1) := by decide +kernel
theorem dX6_shareOf_42 : decode cX6_shareOf 42 = .ok (.aload_n 0, 1) := by decide +kernel
theorem dX6_shareOf_43 : decode cX6_shareOf 43 = .ok (.getfield 22, 3) := by decide +kernel
theorem dX6_shareOf_46 : decode cX6_shareOf 46 = .ok (.iload_n 1, 1) := by decide +kernel
theorem dX6_shareOf_47 : decode cX6_shareOf 47 = .ok (.iaload, 1) := by decide +kernel
theorem dX6_shareOf_48 : decode cX6_shareOf 48 = .ok (.iadd, 1) := by decide +kernel
theorem dX6_shareOf_49 : decode cX6_shareOf 49 = .ok (.if_icmp .ge 32, 3) := by decide +kernel
theorem dX6_shareOf_52 : decode cX6_shareOf 52 = .ok (.aload_n 0, 1) := by decide +kernel
theorem dX6_shareOf_53 : decode cX6_shareOf 53 = .ok (.getfield 25, 3) := by decide +kernel
theorem dX6_shareOf_56 : decode cX6_shareOf 56 = .ok (.iload 4, 2) := by decide +kernel
theorem dX6_shareOf_58 : decode cX6_shareOf 58 = .ok (.iaload, 1) := by decide +kernel
theorem dX6_shareOf_59 : decode cX6_shareOf 59 = .ok (.iload_n 2, 1) := by decide +kernel
theorem dX6_shareOf_60 : decode cX6_shareOf 60 = .ok (.if_icmp .gt 13, 3) := by decide +kernel
theorem dX6_shareOf_63 : decode cX6_shareOf 63 = .ok (.aload_n 0, 1) := by decide +kernel
theorem dX6_shareOf_64 : decode cX6_shareOf 64 = .ok (.getfield 25, 3) := by decide +kernel
theorem dX6_shareOf_67 : decode cX6_shareOf 67 = .ok (.iload 4, 2) := by decide +kernel
theorem dX6_shareOf_69 : decode cX6_shareOf 69 = .ok (.iaload, 1) := by decide +kernel
theorem dX6_shareOf_70 : decode cX6_shareOf 70 = .ok (.goto 4, 3) := by decide +kernel
theorem dX6_shareOf_73 : decode cX6_shareOf 73 = .ok (.iload_n 3, 1) := by decide +kernel
theorem dX6_shareOf_74 : decode cX6_shareOf 74 = .ok (.istore_n 3, 1) := by decide +kernel
theorem dX6_shareOf_75 : decode cX6_shareOf 75 = .ok (.iinc 4 1, 3) := by decide +kernel
theorem dX6_shareOf_78 : decode cX6_shareOf 78 = .ok (.goto (-42), 3) := by decide +kernel
theorem dX6_shareOf_81 : decode cX6_shareOf 81 = .ok (.aload_n 0, 1) := by decide +kernel
theorem dX6_shareOf_82 : decode cX6_shareOf 82 = .ok (.getfield 28, 3) := by decide +kernel
theorem dX6_shareOf_85 : decode cX6_shareOf 85 = .ok (.iload_n 1, 1) := by decide +kernel
theorem dX6_shareOf_86 : decode cX6_shareOf 86 = .ok (.iaload, 1) := by decide +kernel
theorem dX6_shareOf_87 : decode cX6_shareOf 87 = .ok (.ifCond .le 16, 3) := by decide +kernel
theorem dX6_shareOf_90 : decode cX6_shareOf 90 = .ok (.iload_n 2, 1) := by decide +kernel
theorem dX6_shareOf_91 : decode cX6_shareOf 91 = .ok (.iload_n 2, 1) := by decide +kernel
theorem dX6_shareOf_92 : decode cX6_shareOf 92 = .ok (.aload_n 0, 1) := by decide +kernel
theorem dX6_shareOf_93 : decode cX6_shareOf 93 = .ok (.getfield 28, 3) := by decide +kernel
theorem dX6_shareOf_96 : decode cX6_shareOf 96 = .ok (.iload_n 1, 1) := by decide +kernel
theorem dX6_shareOf_97 : decode cX6_shareOf 97 = .ok (.iaload, 1) := by decide +kernel
theorem dX6_shareOf_98 : decode cX6_shareOf 98 = .ok (.irem, 1) := by decide +kernel
theorem dX6_shareOf_99 : decode cX6_shareOf 99 = .ok (.isub, 1) := by decide +kernel
theorem dX6_shareOf_100 : decode cX6_shareOf 100 = .ok (.goto 4, 3) := by decide +kernel
theorem dX6_shareOf_103 : decode cX6_shareOf 103 = .ok (.iload_n 3, 1) := by decide +kernel
theorem dX6_shareOf_104 : decode cX6_shareOf 104 = .ok (.istore_n 3, 1) := by decide +kernel
theorem dX6_shareOf_105 : decode cX6_shareOf 105 = .ok (.aload_n 0, 1) := by decide +kernel
theorem dX6_shareOf_106 : decode cX6_shareOf 106 = .ok (.getfield 7, 3) := by decide +kernel
theorem dX6_shareOf_109 : decode cX6_shareOf 109 = .ok (.iload_n 1, 1) := by decide +kernel
theorem dX6_shareOf_110 : decode cX6_shareOf 110 = .ok (.iaload, 1) := by decide +kernel
theorem dX6_shareOf_111 : decode cX6_shareOf 111 = .ok (.aload_n 0, 1) := by decide +kernel
theorem dX6_shareOf_112 : decode cX6_shareOf 112 = .ok (.getfield 13, 3) := by decide +kernel
theorem dX6_shareOf_115 : decode cX6_shareOf 115 = .ok (.iload_n 1, 1) := by decide +kernel
theorem dX6_shareOf_116 : decode cX6_shareOf 116 = .ok (.iaload, 1) := by decide +kernel
theorem dX6_shareOf_117 : decode cX6_shareOf 117 = .ok (.iload_n 2, 1) := by decide +kernel
theorem dX6_shareOf_118 : decode cX6_shareOf 118 = .ok (.iload_n 3, 1) := by decide +kernel
theorem dX6_shareOf_119 : decode cX6_shareOf 119 = .ok (.isub, 1) := by decide +kernel
theorem dX6_shareOf_120 : decode cX6_shareOf 120 = .ok (.imul, 1) := by decide +kernel
theorem dX6_shareOf_121 : decode cX6_shareOf 121 = .ok (.iadd, 1) := by decide +kernel
theorem dX6_shareOf_122 : decode cX6_shareOf 122 = .ok (.istore 4, 2) := by decide +kernel
theorem dX6_shareOf_124 : decode cX6_shareOf 124 = .ok (.iload 4, 2) := by decide +kernel
theorem dX6_shareOf_126 : decode cX6_shareOf 126 = .ok (.bipush 64, 2) := by decide +kernel
theorem dX6_shareOf_128 : decode cX6_shareOf 128 = .ok (.if_icmp .le 8, 3) := by decide +kernel
theorem dX6_shareOf_131 : decode cX6_shareOf 131 = .ok (.bipush 64, 2) := by decide +kernel
theorem dX6_shareOf_133 : decode cX6_shareOf 133 = .ok (.goto 5, 3) := by decide +kernel
theorem dX6_shareOf_136 : decode cX6_shareOf 136 = .ok (.iload 4, 2) := by decide +kernel
theorem dX6_shareOf_138 : decode cX6_shareOf 138 = .ok (.ireturn, 1) := by decide +kernel
theorem dX6_share_0 : decode cX6_share 0 = .ok (.aload_n 0, 1) := by decide +kernel
theorem dX6_share_1 : decode cX6_share 1 = .ok (.iload_n 1, 1) := by decide +kernel
theorem dX6_share_2 : decode cX6_share 2 = .ok (.invokevirtual 89, 3) := by decide +kernel
theorem dX6_share_5 : decode cX6_share 5 = .ok (.ifCond .eq 19, 3) := by decide +kernel
theorem dX6_share_8 : decode cX6_share 8 = .ok (.iload_n 2, 1) := by decide +kernel
theorem dX6_share_9 : decode cX6_share 9 = .ok (.invokestatic 93, 3) := by decide +kernel
theorem dX6_share_12 : decode cX6_share 12 = .ok (.ifCond .eq 12, 3) := by decide +kernel
theorem dX6_share_15 : decode cX6_share 15 = .ok (.aload_n 0, 1) := by decide +kernel
theorem dX6_share_16 : decode cX6_share 16 = .ok (.iload_n 1, 1) := by decide +kernel
theorem dX6_share_17 : decode cX6_share 17 = .ok (.iload_n 2, 1) := by decide +kernel
theorem dX6_share_18 : decode cX6_share 18 = .ok (.invokevirtual 120, 3) := by decide +kernel
theorem dX6_share_21 : decode cX6_share 21 = .ok (.goto 4, 3) := by decide +kernel
theorem dX6_share_24 : decode cX6_share 24 = .ok (.iconst (-1), 1) := by decide +kernel
theorem dX6_share_25 : decode cX6_share 25 = .ok (.ireturn, 1) := by decide +kernel
theorem dX6_partsOf_0 : decode cX6_partsOf 0 = .ok (.iconst 0, 1) := by decide +kernel
theorem dX6_partsOf_1 : decode cX6_partsOf 1 = .ok (.istore_n 2, 1) := by decide +kernel
theorem dX6_partsOf_2 : decode cX6_partsOf 2 = .ok (.iload_n 2, 1) := by decide +kernel
theorem dX6_partsOf_3 : decode cX6_partsOf 3 = .ok (.iload_n 1, 1) := by decide +kernel
theorem dX6_partsOf_4 : decode cX6_partsOf 4 = .ok (.if_icmp .gt 85, 3) := by decide +kernel
theorem dX6_partsOf_7 : decode cX6_partsOf 7 = .ok (.aload_n 0, 1) := by decide +kernel
theorem dX6_partsOf_8 : decode cX6_partsOf 8 = .ok (.getfield 58, 3) := by decide +kernel
theorem dX6_partsOf_11 : decode cX6_partsOf 11 = .ok (.iload_n 2, 1) := by decide +kernel
theorem dX6_partsOf_12 : decode cX6_partsOf 12 = .ok (.iconst 0, 1) := by decide +kernel
theorem dX6_partsOf_13 : decode cX6_partsOf 13 = .ok (.iastore, 1) := by decide +kernel
theorem dX6_partsOf_14 : decode cX6_partsOf 14 = .ok (.iconst 4, 1) := by decide +kernel
theorem dX6_partsOf_15 : decode cX6_partsOf 15 = .ok (.iload_n 2, 1) := by decide +kernel
theorem dX6_partsOf_16 : decode cX6_partsOf 16 = .ok (.imul, 1) := by decide +kernel
theorem dX6_partsOf_17 : decode cX6_partsOf 17 = .ok (.istore_n 3, 1) := by decide +kernel
theorem dX6_partsOf_18 : decode cX6_partsOf 18 = .ok (.iload_n 3, 1) := by decide +kernel
theorem dX6_partsOf_19 : decode cX6_partsOf 19 = .ok (.iconst 4, 1) := by decide +kernel
theorem dX6_partsOf_20 : decode cX6_partsOf 20 = .ok (.iload_n 2, 1) := by decide +kernel
theorem dX6_partsOf_21 : decode cX6_partsOf 21 = .ok (.imul, 1) := by decide +kernel
theorem dX6_partsOf_22 : decode cX6_partsOf 22 = .ok (.aload_n 0, 1) := by decide +kernel
theorem dX6_partsOf_23 : decode cX6_partsOf 23 = .ok (.getfield 52, 3) := by decide +kernel
theorem dX6_partsOf_26 : decode cX6_partsOf 26 = .ok (.iload_n 2, 1) := by decide +kernel
theorem dX6_partsOf_27 : decode cX6_partsOf 27 = .ok (.iaload, 1) := by decide +kernel
theorem dX6_partsOf_28 : decode cX6_partsOf 28 = .ok (.iadd, 1) := by decide +kernel
theorem dX6_partsOf_29 : decode cX6_partsOf 29 = .ok (.if_icmp .ge 54, 3) := by decide +kernel
theorem dX6_partsOf_32 : decode cX6_partsOf 32 = .ok (.aload_n 0, 1) := by decide +kernel
theorem dX6_partsOf_33 : decode cX6_partsOf 33 = .ok (.getfield 58, 3) := by decide +kernel
theorem dX6_partsOf_36 : decode cX6_partsOf 36 = .ok (.iload_n 2, 1) := by decide +kernel
theorem dX6_partsOf_37 : decode cX6_partsOf 37 = .ok (.dup2, 1) := by decide +kernel
theorem dX6_partsOf_38 : decode cX6_partsOf 38 = .ok (.iaload, 1) := by decide +kernel
theorem dX6_partsOf_39 : decode cX6_partsOf 39 = .ok (.aload_n 0, 1) := by decide +kernel
theorem dX6_partsOf_40 : decode cX6_partsOf 40 = .ok (.getfield 55, 3) := by decide +kernel
theorem dX6_partsOf_43 : decode cX6_partsOf 43 = .ok (.iload_n 3, 1) := by decide +kernel
theorem dX6_partsOf_44 : decode cX6_partsOf 44 = .ok (.iaload, 1) := by decide +kernel
theorem dX6_partsOf_45 : decode cX6_partsOf 45 = .ok (.bipush 12, 2) := by decide +kernel
theorem dX6_partsOf_47 : decode cX6_partsOf 47 = .ok (.if_icmp .ge 14, 3) := by decide +kernel
theorem dX6_partsOf_50 : decode cX6_partsOf 50 = .ok (.iconst 1, 1) := by decide +kernel
theorem dX6_partsOf_51 : decode cX6_partsOf 51 = .ok (.aload_n 0, 1) := by decide +kernel
theorem dX6_partsOf_52 : decode cX6_partsOf 52 = .ok (.getfield 55, 3) := by decide +kernel
theorem dX6_partsOf_55 : decode cX6_partsOf 55 = .ok (.iload_n 3, 1) := by decide +kernel
theorem dX6_partsOf_56 : decode cX6_partsOf 56 = .ok (.iaload, 1) := by decide +kernel
theorem dX6_partsOf_57 : decode cX6_partsOf 57 = .ok (.ishl, 1) := by decide +kernel
theorem dX6_partsOf_58 : decode cX6_partsOf 58 = .ok (.goto 17, 3) := by decide +kernel
theorem dX6_partsOf_61 : decode cX6_partsOf 61 = .ok (.aload_n 0, 1) := by decide +kernel
theorem dX6_partsOf_62 : decode cX6_partsOf 62 = .ok (.getfield 58, 3) := by decide +kernel
theorem dX6_partsOf_65 : decode cX6_partsOf 65 = .ok (.aload_n 0, 1) := by decide +kernel
theorem dX6_partsOf_66 : decode cX6_partsOf 66 = .ok (.getfield 55, 3) := by decide +kernel
theorem dX6_partsOf_69 : decode cX6_partsOf 69 = .ok (.iload_n 3, 1) := by decide +kernel
theorem dX6_partsOf_70 : decode cX6_partsOf 70 = .ok (.iaload, 1) := by decide +kernel
theorem dX6_partsOf_71 : decode cX6_partsOf 71 = .ok (.bipush 12, 2) := by decide +kernel
theorem dX6_partsOf_73 : decode cX6_partsOf 73 = .ok (.isub, 1) := by decide +kernel
theorem dX6_partsOf_74 : decode cX6_partsOf 74 = .ok (.iaload, 1) := by decide +kernel
theorem dX6_partsOf_75 : decode cX6_partsOf 75 = .ok (.ior, 1) := by decide +kernel
theorem dX6_partsOf_76 : decode cX6_partsOf 76 = .ok (.iastore, 1) := by decide +kernel
theorem dX6_partsOf_77 : decode cX6_partsOf 77 = .ok (.iinc 3 1, 3) := by decide +kernel
theorem dX6_partsOf_80 : decode cX6_partsOf 80 = .ok (.goto (-62), 3) := by decide +kernel
theorem dX6_partsOf_83 : decode cX6_partsOf 83 = .ok (.iinc 2 1, 3) := by decide +kernel
theorem dX6_partsOf_86 : decode cX6_partsOf 86 = .ok (.goto (-84), 3) := by decide +kernel
theorem dX6_partsOf_89 : decode cX6_partsOf 89 = .ok (.aload_n 0, 1) := by decide +kernel
theorem dX6_partsOf_90 : decode cX6_partsOf 90 = .ok (.getfield 58, 3) := by decide +kernel
theorem dX6_partsOf_93 : decode cX6_partsOf 93 = .ok (.iload_n 1, 1) := by decide +kernel
theorem dX6_partsOf_94 : decode cX6_partsOf 94 = .ok (.iaload, 1) := by decide +kernel
theorem dX6_partsOf_95 : decode cX6_partsOf 95 = .ok (.ireturn, 1) := by decide +kernel
theorem dX6_groupsOf_0 : decode cX6_groupsOf 0 = .ok (.iconst 0, 1) := by decide +kernel
theorem dX6_groupsOf_1 : decode cX6_groupsOf 1 = .ok (.istore_n 2, 1) := by decide +kernel
theorem dX6_groupsOf_2 : decode cX6_groupsOf 2 = .ok (.iconst 0, 1) := by decide +kernel
theorem dX6_groupsOf_3 : decode cX6_groupsOf 3 = .ok (.istore_n 3, 1) := by decide +kernel
theorem dX6_groupsOf_4 : decode cX6_groupsOf 4 = .ok (.iload_n 3, 1) := by decide +kernel
theorem dX6_groupsOf_5 : decode cX6_groupsOf 5 = .ok (.aload_n 0, 1) := by decide +kernel
theorem dX6_groupsOf_6 : decode cX6_groupsOf 6 = .ok (.getfield 110, 3) := by decide +kernel
theorem dX6_groupsOf_9 : decode cX6_groupsOf 9 = .ok (.if_icmp .ge 30, 3) := by decide +kernel
theorem dX6_groupsOf_12 : decode cX6_groupsOf 12 = .ok (.iload_n 2, 1) := by decide +kernel
theorem dX6_groupsOf_13 : decode cX6_groupsOf 13 = .ok (.aload_n 0, 1) := by decide +kernel
theorem dX6_groupsOf_14 : decode cX6_groupsOf 14 = .ok (.getfield 46, 3) := by decide +kernel
theorem dX6_groupsOf_17 : decode cX6_groupsOf 17 = .ok (.iload_n 3, 1) := by decide +kernel
theorem dX6_groupsOf_18 : decode cX6_groupsOf 18 = .ok (.iaload, 1) := by decide +kernel
theorem dX6_groupsOf_19 : decode cX6_groupsOf 19 = .ok (.iload_n 1, 1) := by decide +kernel
theorem dX6_groupsOf_20 : decode cX6_groupsOf 20 = .ok (.iand, 1) := by decide +kernel
theorem dX6_groupsOf_21 : decode cX6_groupsOf 21 = .ok (.ifCond .eq 9, 3) := by decide +kernel
theorem dX6_groupsOf_24 : decode cX6_groupsOf 24 = .ok (.iconst 1, 1) := by decide +kernel
theorem dX6_groupsOf_25 : decode cX6_groupsOf 25 = .ok (.iload_n 3, 1) := by decide +kernel
theorem dX6_groupsOf_26 : decode cX6_groupsOf 26 = .ok (.ishl, 1) := by decide +kernel
theorem dX6_groupsOf_27 : decode cX6_groupsOf 27 = .ok (.goto 4, 3) := by decide +kernel
theorem dX6_groupsOf_30 : decode cX6_groupsOf 30 = .ok (.iconst 0, 1) := by decide +kernel
theorem dX6_groupsOf_31 : decode cX6_groupsOf 31 = .ok (.ior, 1) := by decide +kernel
theorem dX6_groupsOf_32 : decode cX6_groupsOf 32 = .ok (.istore_n 2, 1) := by decide +kernel
theorem dX6_groupsOf_33 : decode cX6_groupsOf 33 = .ok (.iinc 3 1, 3) := by decide +kernel
theorem dX6_groupsOf_36 : decode cX6_groupsOf 36 = .ok (.goto (-32), 3) := by decide +kernel
theorem dX6_groupsOf_39 : decode cX6_groupsOf 39 = .ok (.iload_n 2, 1) := by decide +kernel
theorem dX6_groupsOf_40 : decode cX6_groupsOf 40 = .ok (.ireturn, 1) := by decide +kernel
theorem dX6_eventsOf_0 : decode cX6_eventsOf 0 = .ok (.aload_n 0, 1) := by decide +kernel
theorem dX6_eventsOf_1 : decode cX6_eventsOf 1 = .ok (.iload_n 1, 1) := by decide +kernel
theorem dX6_eventsOf_2 : decode cX6_eventsOf 2 = .ok (.invokevirtual 124, 3) := by decide +kernel
theorem dX6_eventsOf_5 : decode cX6_eventsOf 5 = .ok (.istore_n 2, 1) := by decide +kernel
theorem dX6_eventsOf_6 : decode cX6_eventsOf 6 = .ok (.iload_n 2, 1) := by decide +kernel
theorem dX6_eventsOf_7 : decode cX6_eventsOf 7 = .ok (.invokestatic 106, 3) := by decide +kernel
theorem dX6_eventsOf_10 : decode cX6_eventsOf 10 = .ok (.aload_n 0, 1) := by decide +kernel
theorem dX6_eventsOf_11 : decode cX6_eventsOf 11 = .ok (.iload_n 2, 1) := by decide +kernel
theorem dX6_eventsOf_12 : decode cX6_eventsOf 12 = .ok (.invokevirtual 127, 3) := by decide +kernel
theorem dX6_eventsOf_15 : decode cX6_eventsOf 15 = .ok (.invokestatic 106, 3) := by decide +kernel
theorem dX6_eventsOf_18 : decode cX6_eventsOf 18 = .ok (.iadd, 1) := by decide +kernel
theorem dX6_eventsOf_19 : decode cX6_eventsOf 19 = .ok (.ireturn, 1) := by decide +kernel
theorem dX6_below_0 : decode cX6_below 0 = .ok (.aload_n 0, 1) := by decide +kernel
theorem dX6_below_1 : decode cX6_below 1 = .ok (.iload_n 1, 1) := by decide +kernel
theorem dX6_below_2 : decode cX6_below 2 = .ok (.invokevirtual 130, 3) := by decide +kernel
theorem dX6_below_5 : decode cX6_below 5 = .ok (.ifCond .eq 15, 3) := by decide +kernel
theorem dX6_below_8 : decode cX6_below 8 = .ok (.iload_n 2, 1) := by decide +kernel
theorem dX6_below_9 : decode cX6_below 9 = .ok (.i2l, 1) := by decide +kernel
theorem dX6_below_10 : decode cX6_below 10 = .ok (.lconst 0, 1) := by decide +kernel
theorem dX6_below_11 : decode cX6_below 11 = .ok (.ldc2_w 133, 3) := by decide +kernel
theorem dX6_below_14 : decode cX6_below 14 = .ok (.invokestatic 78, 3) := by decide +kernel
theorem dX6_below_17 : decode cX6_below 17 = .ok (.ifCond .ne 5, 3) := by decide +kernel
theorem dX6_below_20 : decode cX6_below 20 = .ok (.iconst (-1), 1) := by decide +kernel
theorem dX6_below_21 : decode cX6_below 21 = .ok (.ireturn, 1) := by decide +kernel
theorem dX6_below_22 : decode cX6_below 22 = .ok (.aload_n 0, 1) := by decide +kernel
theorem dX6_below_23 : decode cX6_below 23 = .ok (.iload_n 1, 1) := by decide +kernel
theorem dX6_below_24 : decode cX6_below 24 = .ok (.invokevirtual 124, 3) := by decide +kernel
theorem dX6_below_27 : decode cX6_below 27 = .ok (.istore_n 3, 1) := by decide +kernel
theorem dX6_below_28 : decode cX6_below 28 = .ok (.iload_n 2, 1) := by decide +kernel
theorem dX6_below_29 : decode cX6_below 29 = .ok (.ifCond .ne 7, 3) := by decide +kernel
theorem dX6_below_32 : decode cX6_below 32 = .ok (.iload_n 3, 1) := by decide +kernel
theorem dX6_below_33 : decode cX6_below 33 = .ok (.goto 21, 3) := by decide +kernel
theorem dX6_below_36 : decode cX6_below 36 = .ok (.iload_n 2, 1) := by decide +kernel
theorem dX6_below_37 : decode cX6_below 37 = .ok (.iconst 1, 1) := by decide +kernel
theorem dX6_below_38 : decode cX6_below 38 = .ok (.if_icmp .ne 11, 3) := by decide +kernel
theorem dX6_below_41 : decode cX6_below 41 = .ok (.aload_n 0, 1) := by decide +kernel
theorem dX6_below_42 : decode cX6_below 42 = .ok (.iload_n 3, 1) := by decide +kernel
theorem dX6_below_43 : decode cX6_below 43 = .ok (.invokevirtual 127, 3) := by decide +kernel
theorem dX6_below_46 : decode cX6_below 46 = .ok (.goto 8, 3) := by decide +kernel
theorem dX6_below_49 : decode cX6_below 49 = .ok (.aload_n 0, 1) := by decide +kernel
theorem dX6_below_50 : decode cX6_below 50 = .ok (.iload_n 1, 1) := by decide +kernel
theorem dX6_below_51 : decode cX6_below 51 = .ok (.invokevirtual 135, 3) := by decide +kernel
theorem dX6_below_54 : decode cX6_below 54 = .ok (.ireturn, 1) := by decide +kernel
theorem dX6_shared_0 : decode cX6_shared 0 = .ok (.aload_n 0, 1) := by decide +kernel
theorem dX6_shared_1 : decode cX6_shared 1 = .ok (.iload_n 1, 1) := by decide +kernel
theorem dX6_shared_2 : decode cX6_shared 2 = .ok (.invokevirtual 130, 3) := by decide +kernel
theorem dX6_shared_5 : decode cX6_shared 5 = .ok (.ifCond .eq 11, 3) := by decide +kernel
theorem dX6_shared_8 : decode cX6_shared 8 = .ok (.aload_n 0, 1) := by decide +kernel
theorem dX6_shared_9 : decode cX6_shared 9 = .ok (.iload_n 2, 1) := by decide +kernel
theorem dX6_shared_10 : decode cX6_shared 10 = .ok (.invokevirtual 130, 3) := by decide +kernel
theorem dX6_shared_13 : decode cX6_shared 13 = .ok (.ifCond .ne 5, 3) := by decide +kernel
theorem dX6_shared_16 : decode cX6_shared 16 = .ok (.iconst (-1), 1) := by decide +kernel
theorem dX6_shared_17 : decode cX6_shared 17 = .ok (.ireturn, 1) := by decide +kernel
theorem dX6_shared_18 : decode cX6_shared 18 = .ok (.aload_n 0, 1) := by decide +kernel
theorem dX6_shared_19 : decode cX6_shared 19 = .ok (.iload_n 1, 1) := by decide +kernel
theorem dX6_shared_20 : decode cX6_shared 20 = .ok (.invokevirtual 124, 3) := by decide +kernel
theorem dX6_shared_23 : decode cX6_shared 23 = .ok (.istore_n 3, 1) := by decide +kernel
theorem dX6_shared_24 : decode cX6_shared 24 = .ok (.aload_n 0, 1) := by decide +kernel
theorem dX6_shared_25 : decode cX6_shared 25 = .ok (.iload_n 2, 1) := by decide +kernel
theorem dX6_shared_26 : decode cX6_shared 26 = .ok (.invokevirtual 124, 3) := by decide +kernel
theorem dX6_shared_29 : decode cX6_shared 29 = .ok (.istore 4, 2) := by decide +kernel
theorem dX6_shared_31 : decode cX6_shared 31 = .ok (.iload_n 3, 1) := by decide +kernel
theorem dX6_shared_32 : decode cX6_shared 32 = .ok (.iload 4, 2) := by decide +kernel
theorem dX6_shared_34 : decode cX6_shared 34 = .ok (.iand, 1) := by decide +kernel
theorem dX6_shared_35 : decode cX6_shared 35 = .ok (.aload_n 0, 1) := by decide +kernel
theorem dX6_shared_36 : decode cX6_shared 36 = .ok (.iload_n 3, 1) := by decide +kernel
theorem dX6_shared_37 : decode cX6_shared 37 = .ok (.invokevirtual 127, 3) := by decide +kernel
theorem dX6_shared_40 : decode cX6_shared 40 = .ok (.aload_n 0, 1) := by decide +kernel
theorem dX6_shared_41 : decode cX6_shared 41 = .ok (.iload 4, 2) := by decide +kernel
theorem dX6_shared_43 : decode cX6_shared 43 = .ok (.invokevirtual 127, 3) := by decide +kernel
theorem dX6_shared_46 : decode cX6_shared 46 = .ok (.iand, 1) := by decide +kernel
theorem dX6_shared_47 : decode cX6_shared 47 = .ok (.bipush 12, 2) := by decide +kernel
theorem dX6_shared_49 : decode cX6_shared 49 = .ok (.ishl, 1) := by decide +kernel
theorem dX6_shared_50 : decode cX6_shared 50 = .ok (.ior, 1) := by decide +kernel
theorem dX6_shared_51 : decode cX6_shared 51 = .ok (.ireturn, 1) := by decide +kernel
theorem dX6_does_0 : decode cX6_does 0 = .ok (.iconst 0, 1) := by decide +kernel
theorem dX6_does_1 : decode cX6_does 1 = .ok (.istore_n 3, 1) := by decide +kernel
theorem dX6_does_2 : decode cX6_does 2 = .ok (.iload_n 3, 1) := by decide +kernel
theorem dX6_does_3 : decode cX6_does 3 = .ok (.iload_n 1, 1) := by decide +kernel
theorem dX6_does_4 : decode cX6_does 4 = .ok (.if_icmp .gt 127, 3) := by decide +kernel
theorem dX6_does_7 : decode cX6_does 7 = .ok (.iconst 0, 1) := by decide +kernel
theorem dX6_does_8 : decode cX6_does 8 = .ok (.istore 4, 2) := by decide +kernel
theorem dX6_does_10 : decode cX6_does 10 = .ok (.iconst 4, 1) := by decide +kernel
theorem dX6_does_11 : decode cX6_does 11 = .ok (.iload_n 3, 1) := by decide +kernel
theorem dX6_does_12 : decode cX6_does 12 = .ok (.imul, 1) := by decide +kernel
theorem dX6_does_13 : decode cX6_does 13 = .ok (.istore 5, 2) := by decide +kernel
theorem dX6_does_15 : decode cX6_does 15 = .ok (.iload 5, 2) := by decide +kernel
theorem dX6_does_17 : decode cX6_does 17 = .ok (.iconst 4, 1) := by decide +kernel
theorem dX6_does_18 : decode cX6_does 18 = .ok (.iload_n 3, 1) := by decide +kernel
theorem dX6_does_19 : decode cX6_does 19 = .ok (.imul, 1) := by decide +kernel
theorem dX6_does_20 : decode cX6_does 20 = .ok (.aload_n 0, 1) := by decide +kernel
theorem dX6_does_21 : decode cX6_does 21 = .ok (.getfield 52, 3) := by decide +kernel
theorem dX6_does_24 : decode cX6_does 24 = .ok (.iload_n 3, 1) := by decide +kernel
theorem dX6_does_25 : decode cX6_does 25 = .ok (.iaload, 1) := by decide +kernel
theorem dX6_does_26 : decode cX6_does 26 = .ok (.iadd, 1) := by decide +kernel
theorem dX6_does_27 : decode cX6_does 27 = .ok (.if_icmp .ge 76, 3) := by decide +kernel
theorem dX6_does_30 : decode cX6_does 30 = .ok (.aload_n 0, 1) := by decide +kernel
theorem dX6_does_31 : decode cX6_does 31 = .ok (.getfield 55, 3) := by decide +kernel
theorem dX6_does_34 : decode cX6_does 34 = .ok (.iload 5, 2) := by decide +kernel
theorem dX6_does_36 : decode cX6_does 36 = .ok (.iaload, 1) := by decide +kernel
theorem dX6_does_37 : decode cX6_does 37 = .ok (.bipush 12, 2) := by decide +kernel
theorem dX6_does_39 : decode cX6_does 39 = .ok (.if_icmp .ge 26, 3) := by decide +kernel
theorem dX6_does_42 : decode cX6_does 42 = .ok (.iload_n 2, 1) := by decide +kernel
theorem dX6_does_43 : decode cX6_does 43 = .ok (.aload_n 0, 1) := by decide +kernel
theorem dX6_does_44 : decode cX6_does 44 = .ok (.getfield 55, 3) := by decide +kernel
theorem dX6_does_47 : decode cX6_does 47 = .ok (.iload 5, 2) := by decide +kernel
theorem dX6_does_49 : decode cX6_does 49 = .ok (.iaload, 1) := by decide +kernel
theorem dX6_does_50 : decode cX6_does 50 = .ok (.ishr, 1) := by decide +kernel
theorem dX6_does_51 : decode cX6_does 51 = .ok (.iconst 1, 1) := by decide +kernel
theorem dX6_does_52 : decode cX6_does 52 = .ok (.iand, 1) := by decide +kernel
theorem dX6_does_53 : decode cX6_does 53 = .ok (.iconst 1, 1) := by decide +kernel
theorem dX6_does_54 : decode cX6_does 54 = .ok (.if_icmp .ne 7, 3) := by decide +kernel
theorem dX6_does_57 : decode cX6_does 57 = .ok (.iconst 1, 1) := by decide +kernel
theorem dX6_does_58 : decode cX6_does 58 = .ok (.goto 22, 3) := by decide +kernel
theorem dX6_does_61 : decode cX6_does 61 = .ok (.iconst 0, 1) := by decide +kernel
theorem dX6_does_62 : decode cX6_does 62 = .ok (.goto 18, 3) := by decide +kernel
theorem dX6_does_65 : decode cX6_does 65 = .ok (.aload_n 0, 1) := by decide +kernel
theorem dX6_does_66 : decode cX6_does 66 = .ok (.getfield 61, 3) := by decide +kernel
theorem dX6_does_69 : decode cX6_does 69 = .ok (.aload_n 0, 1) := by decide +kernel
theorem dX6_does_70 : decode cX6_does 70 = .ok (.getfield 55, 3) := by decide +kernel
theorem dX6_does_73 : decode cX6_does 73 = .ok (.iload 5, 2) := by decide +kernel
theorem dX6_does_75 : decode cX6_does 75 = .ok (.iaload, 1) := by decide +kernel
theorem dX6_does_76 : decode cX6_does 76 = .ok (.bipush 12, 2) := by decide +kernel
theorem dX6_does_78 : decode cX6_does 78 = .ok (.isub, 1) := by decide +kernel
theorem dX6_does_79 : decode cX6_does 79 = .ok (.baload, 1) := by decide +kernel
theorem dX6_does_80 : decode cX6_does 80 = .ok (.istore 6, 2) := by decide +kernel
theorem dX6_does_82 : decode cX6_does 82 = .ok (.iload 4, 2) := by decide +kernel
theorem dX6_does_84 : decode cX6_does 84 = .ok (.iload 6, 2) := by decide +kernel
theorem dX6_does_86 : decode cX6_does 86 = .ok (.ifCond .eq 7, 3) := by decide +kernel
theorem dX6_does_89 : decode cX6_does 89 = .ok (.iconst 1, 1) := by decide +kernel
theorem dX6_does_90 : decode cX6_does 90 = .ok (.goto 4, 3) := by decide +kernel
theorem dX6_does_93 : decode cX6_does 93 = .ok (.iconst 0, 1) := by decide +kernel
theorem dX6_does_94 : decode cX6_does 94 = .ok (.iadd, 1) := by decide +kernel
theorem dX6_does_95 : decode cX6_does 95 = .ok (.istore 4, 2) := by decide +kernel
theorem dX6_does_97 : decode cX6_does 97 = .ok (.iinc 5 1, 3) := by decide +kernel
theorem dX6_does_100 : decode cX6_does 100 = .ok (.goto (-85), 3) := by decide +kernel
end
section
theorem dX6_does_103 : decode cX6_does 103 = .ok (.aload_n 0, 1) := by decide +kernel
theorem dX6_does_104 : decode cX6_does 104 = .ok (.getfield 61, 3) := by decide +kernel
theorem dX6_does_107 : decode cX6_does 107 = .ok (.iload_n 3, 1) := by decide +kernel
theorem dX6_does_108 : decode cX6_does 108 = .ok (.iload 4, 2) := by decide +kernel
theorem dX6_does_110 : decode cX6_does 110 = .ok (.aload_n 0, 1) := by decide +kernel
theorem dX6_does_111 : decode cX6_does 111 = .ok (.getfield 49, 3) := by decide +kernel
theorem dX6_does_114 : decode cX6_does 114 = .ok (.iload_n 3, 1) := by decide +kernel
theorem dX6_does_115 : decode cX6_does 115 = .ok (.iaload, 1) := by decide +kernel
theorem dX6_does_116 : decode cX6_does 116 = .ok (.if_icmp .lt 7, 3) := by decide +kernel
theorem dX6_does_119 : decode cX6_does 119 = .ok (.iconst 1, 1) := by decide +kernel
theorem dX6_does_120 : decode cX6_does 120 = .ok (.goto 4, 3) := by decide +kernel
theorem dX6_does_123 : decode cX6_does 123 = .ok (.iconst 0, 1) := by decide +kernel
theorem dX6_does_124 : decode cX6_does 124 = .ok (.bastore, 1) := by decide +kernel
theorem dX6_does_125 : decode cX6_does 125 = .ok (.iinc 3 1, 3) := by decide +kernel
theorem dX6_does_128 : decode cX6_does 128 = .ok (.goto (-126), 3) := by decide +kernel
theorem dX6_does_131 : decode cX6_does 131 = .ok (.aload_n 0, 1) := by decide +kernel
theorem dX6_does_132 : decode cX6_does 132 = .ok (.getfield 61, 3) := by decide +kernel
theorem dX6_does_135 : decode cX6_does 135 = .ok (.iload_n 1, 1) := by decide +kernel
theorem dX6_does_136 : decode cX6_does 136 = .ok (.baload, 1) := by decide +kernel
theorem dX6_does_137 : decode cX6_does 137 = .ok (.ireturn, 1) := by decide +kernel
theorem dX6_adds_0 : decode cX6_adds 0 = .ok (.aload_n 0, 1) := by decide +kernel
theorem dX6_adds_1 : decode cX6_adds 1 = .ok (.getfield 65, 3) := by decide +kernel
theorem dX6_adds_4 : decode cX6_adds 4 = .ok (.aload_n 0, 1) := by decide +kernel
theorem dX6_adds_5 : decode cX6_adds 5 = .ok (.getfield 138, 3) := by decide +kernel
theorem dX6_adds_8 : decode cX6_adds 8 = .ok (.iload_n 1, 1) := by decide +kernel
theorem dX6_adds_9 : decode cX6_adds 9 = .ok (.iastore, 1) := by decide +kernel
theorem dX6_adds_10 : decode cX6_adds 10 = .ok (.aload_n 0, 1) := by decide +kernel
theorem dX6_adds_11 : decode cX6_adds 11 = .ok (.getfield 68, 3) := by decide +kernel
theorem dX6_adds_14 : decode cX6_adds 14 = .ok (.aload_n 0, 1) := by decide +kernel
theorem dX6_adds_15 : decode cX6_adds 15 = .ok (.getfield 138, 3) := by decide +kernel
theorem dX6_adds_18 : decode cX6_adds 18 = .ok (.iload_n 2, 1) := by decide +kernel
theorem dX6_adds_19 : decode cX6_adds 19 = .ok (.iastore, 1) := by decide +kernel
theorem dX6_adds_20 : decode cX6_adds 20 = .ok (.aload_n 0, 1) := by decide +kernel
theorem dX6_adds_21 : decode cX6_adds 21 = .ok (.dup, 1) := by decide +kernel
theorem dX6_adds_22 : decode cX6_adds 22 = .ok (.getfield 138, 3) := by decide +kernel
theorem dX6_adds_25 : decode cX6_adds 25 = .ok (.iconst 1, 1) := by decide +kernel
theorem dX6_adds_26 : decode cX6_adds 26 = .ok (.iadd, 1) := by decide +kernel
theorem dX6_adds_27 : decode cX6_adds 27 = .ok (.putfield 138, 3) := by decide +kernel
theorem dX6_adds_30 : decode cX6_adds 30 = .ok (.return_, 1) := by decide +kernel
theorem dX6_sums_0 : decode cX6_sums 0 = .ok (.lconst 0, 1) := by decide +kernel
theorem dX6_sums_1 : decode cX6_sums 1 = .ok (.lstore_n 3, 1) := by decide +kernel
theorem dX6_sums_2 : decode cX6_sums 2 = .ok (.iconst 0, 1) := by decide +kernel
theorem dX6_sums_3 : decode cX6_sums 3 = .ok (.istore 5, 2) := by decide +kernel
theorem dX6_sums_5 : decode cX6_sums 5 = .ok (.iload 5, 2) := by decide +kernel
theorem dX6_sums_7 : decode cX6_sums 7 = .ok (.iconst 1, 1) := by decide +kernel
theorem dX6_sums_8 : decode cX6_sums 8 = .ok (.aload_n 0, 1) := by decide +kernel
theorem dX6_sums_9 : decode cX6_sums 9 = .ok (.getfield 138, 3) := by decide +kernel
theorem dX6_sums_12 : decode cX6_sums 12 = .ok (.ishl, 1) := by decide +kernel
theorem dX6_sums_13 : decode cX6_sums 13 = .ok (.if_icmp .ge 138, 3) := by decide +kernel
theorem dX6_sums_16 : decode cX6_sums 16 = .ok (.iconst 0, 1) := by decide +kernel
theorem dX6_sums_17 : decode cX6_sums 17 = .ok (.istore 6, 2) := by decide +kernel
theorem dX6_sums_19 : decode cX6_sums 19 = .ok (.lconst 1, 1) := by decide +kernel
theorem dX6_sums_20 : decode cX6_sums 20 = .ok (.lstore 7, 2) := by decide +kernel
theorem dX6_sums_22 : decode cX6_sums 22 = .ok (.iconst 0, 1) := by decide +kernel
theorem dX6_sums_23 : decode cX6_sums 23 = .ok (.istore 9, 2) := by decide +kernel
theorem dX6_sums_25 : decode cX6_sums 25 = .ok (.iload 9, 2) := by decide +kernel
theorem dX6_sums_27 : decode cX6_sums 27 = .ok (.aload_n 0, 1) := by decide +kernel
theorem dX6_sums_28 : decode cX6_sums 28 = .ok (.getfield 138, 3) := by decide +kernel
theorem dX6_sums_31 : decode cX6_sums 31 = .ok (.if_icmp .ge 80, 3) := by decide +kernel
theorem dX6_sums_34 : decode cX6_sums 34 = .ok (.iload 5, 2) := by decide +kernel
theorem dX6_sums_36 : decode cX6_sums 36 = .ok (.iload 9, 2) := by decide +kernel
theorem dX6_sums_38 : decode cX6_sums 38 = .ok (.ishr, 1) := by decide +kernel
theorem dX6_sums_39 : decode cX6_sums 39 = .ok (.iconst 1, 1) := by decide +kernel
theorem dX6_sums_40 : decode cX6_sums 40 = .ok (.iand, 1) := by decide +kernel
theorem dX6_sums_41 : decode cX6_sums 41 = .ok (.iconst 1, 1) := by decide +kernel
theorem dX6_sums_42 : decode cX6_sums 42 = .ok (.if_icmp .ne 7, 3) := by decide +kernel
theorem dX6_sums_45 : decode cX6_sums 45 = .ok (.iconst 1, 1) := by decide +kernel
theorem dX6_sums_46 : decode cX6_sums 46 = .ok (.goto 4, 3) := by decide +kernel
theorem dX6_sums_49 : decode cX6_sums 49 = .ok (.iconst 0, 1) := by decide +kernel
theorem dX6_sums_50 : decode cX6_sums 50 = .ok (.istore 10, 2) := by decide +kernel
theorem dX6_sums_52 : decode cX6_sums 52 = .ok (.iload 6, 2) := by decide +kernel
theorem dX6_sums_54 : decode cX6_sums 54 = .ok (.iload 10, 2) := by decide +kernel
theorem dX6_sums_56 : decode cX6_sums 56 = .ok (.ifCond .eq 13, 3) := by decide +kernel
theorem dX6_sums_59 : decode cX6_sums 59 = .ok (.aload_n 0, 1) := by decide +kernel
theorem dX6_sums_60 : decode cX6_sums 60 = .ok (.getfield 68, 3) := by decide +kernel
theorem dX6_sums_63 : decode cX6_sums 63 = .ok (.iload 9, 2) := by decide +kernel
theorem dX6_sums_65 : decode cX6_sums 65 = .ok (.iaload, 1) := by decide +kernel
theorem dX6_sums_66 : decode cX6_sums 66 = .ok (.goto 4, 3) := by decide +kernel
theorem dX6_sums_69 : decode cX6_sums 69 = .ok (.iconst 0, 1) := by decide +kernel
theorem dX6_sums_70 : decode cX6_sums 70 = .ok (.ior, 1) := by decide +kernel
theorem dX6_sums_71 : decode cX6_sums 71 = .ok (.istore 6, 2) := by decide +kernel
theorem dX6_sums_73 : decode cX6_sums 73 = .ok (.lload 7, 2) := by decide +kernel
theorem dX6_sums_75 : decode cX6_sums 75 = .ok (.iload 10, 2) := by decide +kernel
theorem dX6_sums_77 : decode cX6_sums 77 = .ok (.ifCond .eq 14, 3) := by decide +kernel
theorem dX6_sums_80 : decode cX6_sums 80 = .ok (.aload_n 0, 1) := by decide +kernel
theorem dX6_sums_81 : decode cX6_sums 81 = .ok (.getfield 65, 3) := by decide +kernel
theorem dX6_sums_84 : decode cX6_sums 84 = .ok (.iload 9, 2) := by decide +kernel
theorem dX6_sums_86 : decode cX6_sums 86 = .ok (.iaload, 1) := by decide +kernel
theorem dX6_sums_87 : decode cX6_sums 87 = .ok (.i2l, 1) := by decide +kernel
theorem dX6_sums_88 : decode cX6_sums 88 = .ok (.goto 14, 3) := by decide +kernel
theorem dX6_sums_91 : decode cX6_sums 91 = .ok (.bipush 64, 2) := by decide +kernel
theorem dX6_sums_93 : decode cX6_sums 93 = .ok (.aload_n 0, 1) := by decide +kernel
theorem dX6_sums_94 : decode cX6_sums 94 = .ok (.getfield 65, 3) := by decide +kernel
theorem dX6_sums_97 : decode cX6_sums 97 = .ok (.iload 9, 2) := by decide +kernel
theorem dX6_sums_99 : decode cX6_sums 99 = .ok (.iaload, 1) := by decide +kernel
theorem dX6_sums_100 : decode cX6_sums 100 = .ok (.isub, 1) := by decide +kernel
theorem dX6_sums_101 : decode cX6_sums 101 = .ok (.i2l, 1) := by decide +kernel
theorem dX6_sums_102 : decode cX6_sums 102 = .ok (.lmul, 1) := by decide +kernel
theorem dX6_sums_103 : decode cX6_sums 103 = .ok (.lstore 7, 2) := by decide +kernel
theorem dX6_sums_105 : decode cX6_sums 105 = .ok (.iinc 9 1, 3) := by decide +kernel
theorem dX6_sums_108 : decode cX6_sums 108 = .ok (.goto (-83), 3) := by decide +kernel
theorem dX6_sums_111 : decode cX6_sums 111 = .ok (.lload 7, 2) := by decide +kernel
theorem dX6_sums_113 : decode cX6_sums 113 = .ok (.lconst 0, 1) := by decide +kernel
theorem dX6_sums_114 : decode cX6_sums 114 = .ok (.lcmp, 1) := by decide +kernel
theorem dX6_sums_115 : decode cX6_sums 115 = .ok (.ifCond .le 30, 3) := by decide +kernel
theorem dX6_sums_118 : decode cX6_sums 118 = .ok (.aload_n 0, 1) := by decide +kernel
theorem dX6_sums_119 : decode cX6_sums 119 = .ok (.iload_n 1, 1) := by decide +kernel
theorem dX6_sums_120 : decode cX6_sums 120 = .ok (.iload_n 2, 1) := by decide +kernel
theorem dX6_sums_121 : decode cX6_sums 121 = .ok (.ifCond .eq 10, 3) := by decide +kernel
theorem dX6_sums_124 : decode cX6_sums 124 = .ok (.iload 6, 2) := by decide +kernel
theorem dX6_sums_126 : decode cX6_sums 126 = .ok (.iconst (-1), 1) := by decide +kernel
theorem dX6_sums_127 : decode cX6_sums 127 = .ok (.ixor, 1) := by decide +kernel
theorem dX6_sums_128 : decode cX6_sums 128 = .ok (.goto 5, 3) := by decide +kernel
theorem dX6_sums_131 : decode cX6_sums 131 = .ok (.iload 6, 2) := by decide +kernel
theorem dX6_sums_133 : decode cX6_sums 133 = .ok (.invokevirtual 141, 3) := by decide +kernel
theorem dX6_sums_136 : decode cX6_sums 136 = .ok (.iload_n 2, 1) := by decide +kernel
theorem dX6_sums_137 : decode cX6_sums 137 = .ok (.if_icmp .eq 8, 3) := by decide +kernel
theorem dX6_sums_140 : decode cX6_sums 140 = .ok (.lload_n 3, 1) := by decide +kernel
theorem dX6_sums_141 : decode cX6_sums 141 = .ok (.lload 7, 2) := by decide +kernel
theorem dX6_sums_143 : decode cX6_sums 143 = .ok (.ladd, 1) := by decide +kernel
theorem dX6_sums_144 : decode cX6_sums 144 = .ok (.lstore_n 3, 1) := by decide +kernel
theorem dX6_sums_145 : decode cX6_sums 145 = .ok (.iinc 5 1, 3) := by decide +kernel
theorem dX6_sums_148 : decode cX6_sums 148 = .ok (.goto (-143), 3) := by decide +kernel
theorem dX6_sums_151 : decode cX6_sums 151 = .ok (.aload_n 0, 1) := by decide +kernel
theorem dX6_sums_152 : decode cX6_sums 152 = .ok (.getfield 138, 3) := by decide +kernel
theorem dX6_sums_155 : decode cX6_sums 155 = .ok (.istore 5, 2) := by decide +kernel
theorem dX6_sums_157 : decode cX6_sums 157 = .ok (.iload 5, 2) := by decide +kernel
theorem dX6_sums_159 : decode cX6_sums 159 = .ok (.bipush 8, 2) := by decide +kernel
theorem dX6_sums_161 : decode cX6_sums 161 = .ok (.if_icmp .ge 15, 3) := by decide +kernel
theorem dX6_sums_164 : decode cX6_sums 164 = .ok (.lload_n 3, 1) := by decide +kernel
theorem dX6_sums_165 : decode cX6_sums 165 = .ok (.ldc2_w 87, 3) := by decide +kernel
theorem dX6_sums_168 : decode cX6_sums 168 = .ok (.lmul, 1) := by decide +kernel
theorem dX6_sums_169 : decode cX6_sums 169 = .ok (.lstore_n 3, 1) := by decide +kernel
theorem dX6_sums_170 : decode cX6_sums 170 = .ok (.iinc 5 1, 3) := by decide +kernel
theorem dX6_sums_173 : decode cX6_sums 173 = .ok (.goto (-16), 3) := by decide +kernel
theorem dX6_sums_176 : decode cX6_sums 176 = .ok (.lload_n 3, 1) := by decide +kernel
theorem dX6_sums_177 : decode cX6_sums 177 = .ok (.lreturn, 1) := by decide +kernel
theorem dX6_chanceOf_0 : decode cX6_chanceOf 0 = .ok (.aload_n 0, 1) := by decide +kernel
theorem dX6_chanceOf_1 : decode cX6_chanceOf 1 = .ok (.iload_n 1, 1) := by decide +kernel
theorem dX6_chanceOf_2 : decode cX6_chanceOf 2 = .ok (.invokevirtual 124, 3) := by decide +kernel
theorem dX6_chanceOf_5 : decode cX6_chanceOf 5 = .ok (.istore_n 3, 1) := by decide +kernel
theorem dX6_chanceOf_6 : decode cX6_chanceOf 6 = .ok (.aload_n 0, 1) := by decide +kernel
theorem dX6_chanceOf_7 : decode cX6_chanceOf 7 = .ok (.iconst 0, 1) := by decide +kernel
theorem dX6_chanceOf_8 : decode cX6_chanceOf 8 = .ok (.putfield 138, 3) := by decide +kernel
theorem dX6_chanceOf_11 : decode cX6_chanceOf 11 = .ok (.iconst 0, 1) := by decide +kernel
theorem dX6_chanceOf_12 : decode cX6_chanceOf 12 = .ok (.istore 4, 2) := by decide +kernel
theorem dX6_chanceOf_14 : decode cX6_chanceOf 14 = .ok (.iload 4, 2) := by decide +kernel
theorem dX6_chanceOf_16 : decode cX6_chanceOf 16 = .ok (.aload_n 0, 1) := by decide +kernel
theorem dX6_chanceOf_17 : decode cX6_chanceOf 17 = .ok (.getfield 74, 3) := by decide +kernel
theorem dX6_chanceOf_20 : decode cX6_chanceOf 20 = .ok (.if_icmp .ge 34, 3) := by decide +kernel
theorem dX6_chanceOf_23 : decode cX6_chanceOf 23 = .ok (.iload_n 3, 1) := by decide +kernel
theorem dX6_chanceOf_24 : decode cX6_chanceOf 24 = .ok (.iload 4, 2) := by decide +kernel
theorem dX6_chanceOf_26 : decode cX6_chanceOf 26 = .ok (.ishr, 1) := by decide +kernel
theorem dX6_chanceOf_27 : decode cX6_chanceOf 27 = .ok (.iconst 1, 1) := by decide +kernel
theorem dX6_chanceOf_28 : decode cX6_chanceOf 28 = .ok (.iand, 1) := by decide +kernel
theorem dX6_chanceOf_29 : decode cX6_chanceOf 29 = .ok (.iconst 1, 1) := by decide +kernel
theorem dX6_chanceOf_30 : decode cX6_chanceOf 30 = .ok (.if_icmp .ne 18, 3) := by decide +kernel
theorem dX6_chanceOf_33 : decode cX6_chanceOf 33 = .ok (.aload_n 0, 1) := by decide +kernel
theorem dX6_chanceOf_34 : decode cX6_chanceOf 34 = .ok (.aload_n 0, 1) := by decide +kernel
theorem dX6_chanceOf_35 : decode cX6_chanceOf 35 = .ok (.iload 4, 2) := by decide +kernel
theorem dX6_chanceOf_37 : decode cX6_chanceOf 37 = .ok (.iload_n 2, 1) := by decide +kernel
theorem dX6_chanceOf_38 : decode cX6_chanceOf 38 = .ok (.invokevirtual 120, 3) := by decide +kernel
theorem dX6_chanceOf_41 : decode cX6_chanceOf 41 = .ok (.iconst 1, 1) := by decide +kernel
theorem dX6_chanceOf_42 : decode cX6_chanceOf 42 = .ok (.iload 4, 2) := by decide +kernel
theorem dX6_chanceOf_44 : decode cX6_chanceOf 44 = .ok (.ishl, 1) := by decide +kernel
theorem dX6_chanceOf_45 : decode cX6_chanceOf 45 = .ok (.invokevirtual 144, 3) := by decide +kernel
theorem dX6_chanceOf_48 : decode cX6_chanceOf 48 = .ok (.iinc 4 1, 3) := by decide +kernel
theorem dX6_chanceOf_51 : decode cX6_chanceOf 51 = .ok (.goto (-37), 3) := by decide +kernel
theorem dX6_chanceOf_54 : decode cX6_chanceOf 54 = .ok (.iconst 0, 1) := by decide +kernel
theorem dX6_chanceOf_55 : decode cX6_chanceOf 55 = .ok (.istore 4, 2) := by decide +kernel
theorem dX6_chanceOf_57 : decode cX6_chanceOf 57 = .ok (.iload 4, 2) := by decide +kernel
theorem dX6_chanceOf_59 : decode cX6_chanceOf 59 = .ok (.aload_n 0, 1) := by decide +kernel
theorem dX6_chanceOf_60 : decode cX6_chanceOf 60 = .ok (.getfield 110, 3) := by decide +kernel
theorem dX6_chanceOf_63 : decode cX6_chanceOf 63 = .ok (.if_icmp .ge 39, 3) := by decide +kernel
theorem dX6_chanceOf_66 : decode cX6_chanceOf 66 = .ok (.aload_n 0, 1) := by decide +kernel
theorem dX6_chanceOf_67 : decode cX6_chanceOf 67 = .ok (.getfield 46, 3) := by decide +kernel
theorem dX6_chanceOf_70 : decode cX6_chanceOf 70 = .ok (.iload 4, 2) := by decide +kernel
theorem dX6_chanceOf_72 : decode cX6_chanceOf 72 = .ok (.iaload, 1) := by decide +kernel
theorem dX6_chanceOf_73 : decode cX6_chanceOf 73 = .ok (.iload_n 3, 1) := by decide +kernel
theorem dX6_chanceOf_74 : decode cX6_chanceOf 74 = .ok (.iand, 1) := by decide +kernel
theorem dX6_chanceOf_75 : decode cX6_chanceOf 75 = .ok (.ifCond .eq 21, 3) := by decide +kernel
theorem dX6_chanceOf_78 : decode cX6_chanceOf 78 = .ok (.aload_n 0, 1) := by decide +kernel
theorem dX6_chanceOf_79 : decode cX6_chanceOf 79 = .ok (.aload_n 0, 1) := by decide +kernel
theorem dX6_chanceOf_80 : decode cX6_chanceOf 80 = .ok (.getfield 43, 3) := by decide +kernel
theorem dX6_chanceOf_83 : decode cX6_chanceOf 83 = .ok (.iload 4, 2) := by decide +kernel
theorem dX6_chanceOf_85 : decode cX6_chanceOf 85 = .ok (.iaload, 1) := by decide +kernel
theorem dX6_chanceOf_86 : decode cX6_chanceOf 86 = .ok (.aload_n 0, 1) := by decide +kernel
theorem dX6_chanceOf_87 : decode cX6_chanceOf 87 = .ok (.getfield 46, 3) := by decide +kernel
theorem dX6_chanceOf_90 : decode cX6_chanceOf 90 = .ok (.iload 4, 2) := by decide +kernel
theorem dX6_chanceOf_92 : decode cX6_chanceOf 92 = .ok (.iaload, 1) := by decide +kernel
theorem dX6_chanceOf_93 : decode cX6_chanceOf 93 = .ok (.invokevirtual 144, 3) := by decide +kernel
theorem dX6_chanceOf_96 : decode cX6_chanceOf 96 = .ok (.iinc 4 1, 3) := by decide +kernel
theorem dX6_chanceOf_99 : decode cX6_chanceOf 99 = .ok (.goto (-42), 3) := by decide +kernel
theorem dX6_chanceOf_102 : decode cX6_chanceOf 102 = .ok (.aload_n 0, 1) := by decide +kernel
theorem dX6_chanceOf_103 : decode cX6_chanceOf 103 = .ok (.iload_n 1, 1) := by decide +kernel
theorem dX6_chanceOf_104 : decode cX6_chanceOf 104 = .ok (.iconst 1, 1) := by decide +kernel
theorem dX6_chanceOf_105 : decode cX6_chanceOf 105 = .ok (.invokevirtual 148, 3) := by decide +kernel
theorem dX6_chanceOf_108 : decode cX6_chanceOf 108 = .ok (.lreturn, 1) := by decide +kernel
theorem dX6_chance_0 : decode cX6_chance 0 = .ok (.aload_n 0, 1) := by decide +kernel
theorem dX6_chance_1 : decode cX6_chance 1 = .ok (.iload_n 1, 1) := by decide +kernel
theorem dX6_chance_2 : decode cX6_chance 2 = .ok (.invokevirtual 130, 3) := by decide +kernel
theorem dX6_chance_5 : decode cX6_chance 5 = .ok (.ifCond .eq 10, 3) := by decide +kernel
theorem dX6_chance_8 : decode cX6_chance 8 = .ok (.iload_n 2, 1) := by decide +kernel
theorem dX6_chance_9 : decode cX6_chance 9 = .ok (.invokestatic 93, 3) := by decide +kernel
theorem dX6_chance_12 : decode cX6_chance 12 = .ok (.ifCond .ne 7, 3) := by decide +kernel
theorem dX6_chance_15 : decode cX6_chance 15 = .ok (.ldc2_w 152, 3) := by decide +kernel
theorem dX6_chance_18 : decode cX6_chance 18 = .ok (.lreturn, 1) := by decide +kernel
theorem dX6_chance_19 : decode cX6_chance 19 = .ok (.aload_n 0, 1) := by decide +kernel
theorem dX6_chance_20 : decode cX6_chance 20 = .ok (.iload_n 1, 1) := by decide +kernel
theorem dX6_chance_21 : decode cX6_chance 21 = .ok (.invokevirtual 135, 3) := by decide +kernel
theorem dX6_chance_24 : decode cX6_chance 24 = .ok (.bipush 8, 2) := by decide +kernel
theorem dX6_chance_26 : decode cX6_chance 26 = .ok (.if_icmp .le 9, 3) := by decide +kernel
theorem dX6_chance_29 : decode cX6_chance 29 = .ok (.ldc2_w 154, 3) := by decide +kernel
theorem dX6_chance_32 : decode cX6_chance 32 = .ok (.goto 9, 3) := by decide +kernel
theorem dX6_chance_35 : decode cX6_chance 35 = .ok (.aload_n 0, 1) := by decide +kernel
theorem dX6_chance_36 : decode cX6_chance 36 = .ok (.iload_n 1, 1) := by decide +kernel
theorem dX6_chance_37 : decode cX6_chance 37 = .ok (.iload_n 2, 1) := by decide +kernel
theorem dX6_chance_38 : decode cX6_chance 38 = .ok (.invokevirtual 156, 3) := by decide +kernel
theorem dX6_chance_41 : decode cX6_chance 41 = .ok (.lreturn, 1) := by decide +kernel
theorem dX6_isSpan_0 : decode cX6_isSpan 0 = .ok (.iload_n 1, 1) := by decide +kernel
theorem dX6_isSpan_1 : decode cX6_isSpan 1 = .ok (.iload_n 2, 1) := by decide +kernel
theorem dX6_isSpan_2 : decode cX6_isSpan 2 = .ok (.invokestatic 96, 3) := by decide +kernel
theorem dX6_isSpan_5 : decode cX6_isSpan 5 = .ok (.ifCond .eq 16, 3) := by decide +kernel
theorem dX6_isSpan_8 : decode cX6_isSpan 8 = .ok (.iload_n 2, 1) := by decide +kernel
theorem dX6_isSpan_9 : decode cX6_isSpan 9 = .ok (.iload_n 1, 1) := by decide +kernel
theorem dX6_isSpan_10 : decode cX6_isSpan 10 = .ok (.isub, 1) := by decide +kernel
theorem dX6_isSpan_11 : decode cX6_isSpan 11 = .ok (.sipush 200, 3) := by decide +kernel
theorem dX6_isSpan_14 : decode cX6_isSpan 14 = .ok (.if_icmp .ge 7, 3) := by decide +kernel
theorem dX6_isSpan_17 : decode cX6_isSpan 17 = .ok (.iconst 1, 1) := by decide +kernel
theorem dX6_isSpan_18 : decode cX6_isSpan 18 = .ok (.goto 4, 3) := by decide +kernel
theorem dX6_isSpan_21 : decode cX6_isSpan 21 = .ok (.iconst 0, 1) := by decide +kernel
theorem dX6_isSpan_22 : decode cX6_isSpan 22 = .ok (.ireturn, 1) := by decide +kernel
theorem dX6_over_0 : decode cX6_over 0 = .ok (.aload_n 0, 1) := by decide +kernel
theorem dX6_over_1 : decode cX6_over 1 = .ok (.iload_n 1, 1) := by decide +kernel
theorem dX6_over_2 : decode cX6_over 2 = .ok (.invokevirtual 130, 3) := by decide +kernel
theorem dX6_over_5 : decode cX6_over 5 = .ok (.ifCond .eq 12, 3) := by decide +kernel
theorem dX6_over_8 : decode cX6_over 8 = .ok (.aload_n 0, 1) := by decide +kernel
theorem dX6_over_9 : decode cX6_over 9 = .ok (.iload_n 2, 1) := by decide +kernel
theorem dX6_over_10 : decode cX6_over 10 = .ok (.iload_n 3, 1) := by decide +kernel
theorem dX6_over_11 : decode cX6_over 11 = .ok (.invokevirtual 160, 3) := by decide +kernel
theorem dX6_over_14 : decode cX6_over 14 = .ok (.ifCond .ne 7, 3) := by decide +kernel
theorem dX6_over_17 : decode cX6_over 17 = .ok (.ldc2_w 152, 3) := by decide +kernel
theorem dX6_over_20 : decode cX6_over 20 = .ok (.lreturn, 1) := by decide +kernel
theorem dX6_over_21 : decode cX6_over 21 = .ok (.aload_n 0, 1) := by decide +kernel
theorem dX6_over_22 : decode cX6_over 22 = .ok (.iload_n 1, 1) := by decide +kernel
theorem dX6_over_23 : decode cX6_over 23 = .ok (.invokevirtual 135, 3) := by decide +kernel
theorem dX6_over_26 : decode cX6_over 26 = .ok (.bipush 8, 2) := by decide +kernel
theorem dX6_over_28 : decode cX6_over 28 = .ok (.if_icmp .le 7, 3) := by decide +kernel
theorem dX6_over_31 : decode cX6_over 31 = .ok (.ldc2_w 154, 3) := by decide +kernel
theorem dX6_over_34 : decode cX6_over 34 = .ok (.lreturn, 1) := by decide +kernel
theorem dX6_over_35 : decode cX6_over 35 = .ok (.lconst 0, 1) := by decide +kernel
theorem dX6_over_36 : decode cX6_over 36 = .ok (.lstore 4, 2) := by decide +kernel
theorem dX6_over_38 : decode cX6_over 38 = .ok (.iload_n 2, 1) := by decide +kernel
theorem dX6_over_39 : decode cX6_over 39 = .ok (.istore 6, 2) := by decide +kernel
theorem dX6_over_41 : decode cX6_over 41 = .ok (.iload 6, 2) := by decide +kernel
theorem dX6_over_43 : decode cX6_over 43 = .ok (.iload_n 3, 1) := by decide +kernel
theorem dX6_over_44 : decode cX6_over 44 = .ok (.if_icmp .gt 21, 3) := by decide +kernel
theorem dX6_over_47 : decode cX6_over 47 = .ok (.lload 4, 2) := by decide +kernel
theorem dX6_over_49 : decode cX6_over 49 = .ok (.aload_n 0, 1) := by decide +kernel
theorem dX6_over_50 : decode cX6_over 50 = .ok (.iload_n 1, 1) := by decide +kernel
theorem dX6_over_51 : decode cX6_over 51 = .ok (.iload 6, 2) := by decide +kernel
theorem dX6_over_53 : decode cX6_over 53 = .ok (.invokevirtual 156, 3) := by decide +kernel
theorem dX6_over_56 : decode cX6_over 56 = .ok (.ladd, 1) := by decide +kernel
theorem dX6_over_57 : decode cX6_over 57 = .ok (.lstore 4, 2) := by decide +kernel
theorem dX6_over_59 : decode cX6_over 59 = .ok (.iinc 6 1, 3) := by decide +kernel
theorem dX6_over_62 : decode cX6_over 62 = .ok (.goto (-21), 3) := by decide +kernel
theorem dX6_over_65 : decode cX6_over 65 = .ok (.lload 4, 2) := by decide +kernel
theorem dX6_over_67 : decode cX6_over 67 = .ok (.lreturn, 1) := by decide +kernel
theorem dX6_broken_0 : decode cX6_broken 0 = .ok (.aload_n 0, 1) := by decide +kernel
theorem dX6_broken_1 : decode cX6_broken 1 = .ok (.iload_n 1, 1) := by decide +kernel
theorem dX6_broken_2 : decode cX6_broken 2 = .ok (.invokevirtual 130, 3) := by decide +kernel
theorem dX6_broken_5 : decode cX6_broken 5 = .ok (.ifCond .eq 24, 3) := by decide +kernel
theorem dX6_broken_8 : decode cX6_broken 8 = .ok (.aload_n 0, 1) := by decide +kernel
theorem dX6_broken_9 : decode cX6_broken 9 = .ok (.iload_n 2, 1) := by decide +kernel
theorem dX6_broken_10 : decode cX6_broken 10 = .ok (.iload_n 3, 1) := by decide +kernel
theorem dX6_broken_11 : decode cX6_broken 11 = .ok (.invokevirtual 160, 3) := by decide +kernel
theorem dX6_broken_14 : decode cX6_broken 14 = .ok (.ifCond .eq 15, 3) := by decide +kernel
theorem dX6_broken_17 : decode cX6_broken 17 = .ok (.lload 4, 2) := by decide +kernel
theorem dX6_broken_19 : decode cX6_broken 19 = .ok (.lconst 0, 1) := by decide +kernel
theorem dX6_broken_20 : decode cX6_broken 20 = .ok (.ldc2_w 163, 3) := by decide +kernel
theorem dX6_broken_23 : decode cX6_broken 23 = .ok (.invokestatic 78, 3) := by decide +kernel
theorem dX6_broken_26 : decode cX6_broken 26 = .ok (.ifCond .ne 5, 3) := by decide +kernel
theorem dX6_broken_29 : decode cX6_broken 29 = .ok (.iconst (-1), 1) := by decide +kernel
theorem dX6_broken_30 : decode cX6_broken 30 = .ok (.ireturn, 1) := by decide +kernel
theorem dX6_broken_31 : decode cX6_broken 31 = .ok (.aload_n 0, 1) := by decide +kernel
theorem dX6_broken_32 : decode cX6_broken 32 = .ok (.iload_n 1, 1) := by decide +kernel
theorem dX6_broken_33 : decode cX6_broken 33 = .ok (.invokevirtual 135, 3) := by decide +kernel
theorem dX6_broken_36 : decode cX6_broken 36 = .ok (.bipush 8, 2) := by decide +kernel
theorem dX6_broken_38 : decode cX6_broken 38 = .ok (.if_icmp .le 6, 3) := by decide +kernel
theorem dX6_broken_41 : decode cX6_broken 41 = .ok (.bipush (-2), 2) := by decide +kernel
theorem dX6_broken_43 : decode cX6_broken 43 = .ok (.ireturn, 1) := by decide +kernel
theorem dX6_broken_44 : decode cX6_broken 44 = .ok (.iload_n 2, 1) := by decide +kernel
theorem dX6_broken_45 : decode cX6_broken 45 = .ok (.istore 6, 2) := by decide +kernel
theorem dX6_broken_47 : decode cX6_broken 47 = .ok (.iload 6, 2) := by decide +kernel
theorem dX6_broken_49 : decode cX6_broken 49 = .ok (.iload_n 3, 1) := by decide +kernel
theorem dX6_broken_50 : decode cX6_broken 50 = .ok (.if_icmp .gt 25, 3) := by decide +kernel
theorem dX6_broken_53 : decode cX6_broken 53 = .ok (.aload_n 0, 1) := by decide +kernel
theorem dX6_broken_54 : decode cX6_broken 54 = .ok (.iload_n 1, 1) := by decide +kernel
theorem dX6_broken_55 : decode cX6_broken 55 = .ok (.iload 6, 2) := by decide +kernel
theorem dX6_broken_57 : decode cX6_broken 57 = .ok (.invokevirtual 156, 3) := by decide +kernel
theorem dX6_broken_60 : decode cX6_broken 60 = .ok (.lload 4, 2) := by decide +kernel
theorem dX6_broken_62 : decode cX6_broken 62 = .ok (.lcmp, 1) := by decide +kernel
theorem dX6_broken_63 : decode cX6_broken 63 = .ok (.ifCond .le 6, 3) := by decide +kernel
theorem dX6_broken_66 : decode cX6_broken 66 = .ok (.iload 6, 2) := by decide +kernel
theorem dX6_broken_68 : decode cX6_broken 68 = .ok (.ireturn, 1) := by decide +kernel
theorem dX6_broken_69 : decode cX6_broken 69 = .ok (.iinc 6 1, 3) := by decide +kernel
theorem dX6_broken_72 : decode cX6_broken 72 = .ok (.goto (-25), 3) := by decide +kernel
theorem dX6_broken_75 : decode cX6_broken 75 = .ok (.bipush (-4), 2) := by decide +kernel
theorem dX6_broken_77 : decode cX6_broken 77 = .ok (.ireturn, 1) := by decide +kernel
theorem dX6_nothing_0 : decode cX6_nothing 0 = .ok (.aload_n 0, 1) := by decide +kernel
theorem dX6_nothing_1 : decode cX6_nothing 1 = .ok (.iload_n 1, 1) := by decide +kernel
theorem dX6_nothing_2 : decode cX6_nothing 2 = .ok (.invokevirtual 130, 3) := by decide +kernel
theorem dX6_nothing_5 : decode cX6_nothing 5 = .ok (.ifCond .ne 7, 3) := by decide +kernel
theorem dX6_nothing_8 : decode cX6_nothing 8 = .ok (.ldc2_w 152, 3) := by decide +kernel
theorem dX6_nothing_11 : decode cX6_nothing 11 = .ok (.lreturn, 1) := by decide +kernel
theorem dX6_nothing_12 : decode cX6_nothing 12 = .ok (.aload_n 0, 1) := by decide +kernel
theorem dX6_nothing_13 : decode cX6_nothing 13 = .ok (.iload_n 1, 1) := by decide +kernel
theorem dX6_nothing_14 : decode cX6_nothing 14 = .ok (.invokevirtual 124, 3) := by decide +kernel
theorem dX6_nothing_17 : decode cX6_nothing 17 = .ok (.istore_n 2, 1) := by decide +kernel
theorem dX6_nothing_18 : decode cX6_nothing 18 = .ok (.iload_n 2, 1) := by decide +kernel
theorem dX6_nothing_19 : decode cX6_nothing 19 = .ok (.invokestatic 106, 3) := by decide +kernel
theorem dX6_nothing_22 : decode cX6_nothing 22 = .ok (.bipush 8, 2) := by decide +kernel
theorem dX6_nothing_24 : decode cX6_nothing 24 = .ok (.if_icmp .le 7, 3) := by decide +kernel
theorem dX6_nothing_27 : decode cX6_nothing 27 = .ok (.ldc2_w 154, 3) := by decide +kernel
theorem dX6_nothing_30 : decode cX6_nothing 30 = .ok (.lreturn, 1) := by decide +kernel
theorem dX6_nothing_31 : decode cX6_nothing 31 = .ok (.aload_n 0, 1) := by decide +kernel
theorem dX6_nothing_32 : decode cX6_nothing 32 = .ok (.iconst 0, 1) := by decide +kernel
theorem dX6_nothing_33 : decode cX6_nothing 33 = .ok (.putfield 138, 3) := by decide +kernel
theorem dX6_nothing_36 : decode cX6_nothing 36 = .ok (.iconst 0, 1) := by decide +kernel
theorem dX6_nothing_37 : decode cX6_nothing 37 = .ok (.istore_n 3, 1) := by decide +kernel
theorem dX6_nothing_38 : decode cX6_nothing 38 = .ok (.iload_n 3, 1) := by decide +kernel
theorem dX6_nothing_39 : decode cX6_nothing 39 = .ok (.aload_n 0, 1) := by decide +kernel
theorem dX6_nothing_40 : decode cX6_nothing 40 = .ok (.getfield 74, 3) := by decide +kernel
theorem dX6_nothing_43 : decode cX6_nothing 43 = .ok (.if_icmp .ge 31, 3) := by decide +kernel
theorem dX6_nothing_46 : decode cX6_nothing 46 = .ok (.iload_n 2, 1) := by decide +kernel
theorem dX6_nothing_47 : decode cX6_nothing 47 = .ok (.iload_n 3, 1) := by decide +kernel
theorem dX6_nothing_48 : decode cX6_nothing 48 = .ok (.ishr, 1) := by decide +kernel
theorem dX6_nothing_49 : decode cX6_nothing 49 = .ok (.iconst 1, 1) := by decide +kernel
theorem dX6_nothing_50 : decode cX6_nothing 50 = .ok (.iand, 1) := by decide +kernel
theorem dX6_nothing_51 : decode cX6_nothing 51 = .ok (.iconst 1, 1) := by decide +kernel
theorem dX6_nothing_52 : decode cX6_nothing 52 = .ok (.if_icmp .ne 16, 3) := by decide +kernel
theorem dX6_nothing_55 : decode cX6_nothing 55 = .ok (.aload_n 0, 1) := by decide +kernel
theorem dX6_nothing_56 : decode cX6_nothing 56 = .ok (.aload_n 0, 1) := by decide +kernel
theorem dX6_nothing_57 : decode cX6_nothing 57 = .ok (.getfield 16, 3) := by decide +kernel
theorem dX6_nothing_60 : decode cX6_nothing 60 = .ok (.iload_n 3, 1) := by decide +kernel
theorem dX6_nothing_61 : decode cX6_nothing 61 = .ok (.iaload, 1) := by decide +kernel
theorem dX6_nothing_62 : decode cX6_nothing 62 = .ok (.iconst 1, 1) := by decide +kernel
theorem dX6_nothing_63 : decode cX6_nothing 63 = .ok (.iload_n 3, 1) := by decide +kernel
theorem dX6_nothing_64 : decode cX6_nothing 64 = .ok (.ishl, 1) := by decide +kernel
theorem dX6_nothing_65 : decode cX6_nothing 65 = .ok (.invokevirtual 144, 3) := by decide +kernel
theorem dX6_nothing_68 : decode cX6_nothing 68 = .ok (.iinc 3 1, 3) := by decide +kernel
theorem dX6_nothing_71 : decode cX6_nothing 71 = .ok (.goto (-33), 3) := by decide +kernel
theorem dX6_nothing_74 : decode cX6_nothing 74 = .ok (.aload_n 0, 1) := by decide +kernel
theorem dX6_nothing_75 : decode cX6_nothing 75 = .ok (.iload_n 1, 1) := by decide +kernel
theorem dX6_nothing_76 : decode cX6_nothing 76 = .ok (.iconst 0, 1) := by decide +kernel
theorem dX6_nothing_77 : decode cX6_nothing 77 = .ok (.invokevirtual 148, 3) := by decide +kernel
theorem dX6_nothing_80 : decode cX6_nothing 80 = .ok (.lreturn, 1) := by decide +kernel
theorem dX6_mattersOf_0 : decode cX6_mattersOf 0 = .ok (.aload_n 0, 1) := by decide +kernel
theorem dX6_mattersOf_1 : decode cX6_mattersOf 1 = .ok (.iload_n 1, 1) := by decide +kernel
theorem dX6_mattersOf_2 : decode cX6_mattersOf 2 = .ok (.invokevirtual 124, 3) := by decide +kernel
theorem dX6_mattersOf_5 : decode cX6_mattersOf 5 = .ok (.iload_n 2, 1) := by decide +kernel
theorem dX6_mattersOf_6 : decode cX6_mattersOf 6 = .ok (.ishr, 1) := by decide +kernel
theorem dX6_mattersOf_7 : decode cX6_mattersOf 7 = .ok (.iconst 1, 1) := by decide +kernel
theorem dX6_mattersOf_8 : decode cX6_mattersOf 8 = .ok (.iand, 1) := by decide +kernel
theorem dX6_mattersOf_9 : decode cX6_mattersOf 9 = .ok (.ifCond .ne 5, 3) := by decide +kernel
theorem dX6_mattersOf_12 : decode cX6_mattersOf 12 = .ok (.lconst 0, 1) := by decide +kernel
theorem dX6_mattersOf_13 : decode cX6_mattersOf 13 = .ok (.lreturn, 1) := by decide +kernel
theorem dX6_mattersOf_14 : decode cX6_mattersOf 14 = .ok (.aload_n 0, 1) := by decide +kernel
theorem dX6_mattersOf_15 : decode cX6_mattersOf 15 = .ok (.getfield 31, 3) := by decide +kernel
theorem dX6_mattersOf_18 : decode cX6_mattersOf 18 = .ok (.iload_n 2, 1) := by decide +kernel
theorem dX6_mattersOf_19 : decode cX6_mattersOf 19 = .ok (.bipush 64, 2) := by decide +kernel
theorem dX6_mattersOf_21 : decode cX6_mattersOf 21 = .ok (.iastore, 1) := by decide +kernel
theorem dX6_mattersOf_22 : decode cX6_mattersOf 22 = .ok (.aload_n 0, 1) := by decide +kernel
theorem dX6_mattersOf_23 : decode cX6_mattersOf 23 = .ok (.iload_n 1, 1) := by decide +kernel
theorem dX6_mattersOf_24 : decode cX6_mattersOf 24 = .ok (.iload_n 3, 1) := by decide +kernel
theorem dX6_mattersOf_25 : decode cX6_mattersOf 25 = .ok (.invokevirtual 156, 3) := by decide +kernel
theorem dX6_mattersOf_28 : decode cX6_mattersOf 28 = .ok (.lstore 4, 2) := by decide +kernel
theorem dX6_mattersOf_30 : decode cX6_mattersOf 30 = .ok (.aload_n 0, 1) := by decide +kernel
theorem dX6_mattersOf_31 : decode cX6_mattersOf 31 = .ok (.getfield 31, 3) := by decide +kernel
theorem dX6_mattersOf_34 : decode cX6_mattersOf 34 = .ok (.iload_n 2, 1) := by decide +kernel
theorem dX6_mattersOf_35 : decode cX6_mattersOf 35 = .ok (.iconst 0, 1) := by decide +kernel
theorem dX6_mattersOf_36 : decode cX6_mattersOf 36 = .ok (.iastore, 1) := by decide +kernel
theorem dX6_mattersOf_37 : decode cX6_mattersOf 37 = .ok (.lload 4, 2) := by decide +kernel
theorem dX6_mattersOf_39 : decode cX6_mattersOf 39 = .ok (.aload_n 0, 1) := by decide +kernel
theorem dX6_mattersOf_40 : decode cX6_mattersOf 40 = .ok (.iload_n 1, 1) := by decide +kernel
theorem dX6_mattersOf_41 : decode cX6_mattersOf 41 = .ok (.iload_n 3, 1) := by decide +kernel
theorem dX6_mattersOf_42 : decode cX6_mattersOf 42 = .ok (.invokevirtual 156, 3) := by decide +kernel
theorem dX6_mattersOf_45 : decode cX6_mattersOf 45 = .ok (.lsub, 1) := by decide +kernel
theorem dX6_mattersOf_46 : decode cX6_mattersOf 46 = .ok (.lstore 4, 2) := by decide +kernel
theorem dX6_mattersOf_48 : decode cX6_mattersOf 48 = .ok (.aload_n 0, 1) := by decide +kernel
theorem dX6_mattersOf_49 : decode cX6_mattersOf 49 = .ok (.getfield 31, 3) := by decide +kernel
theorem dX6_mattersOf_52 : decode cX6_mattersOf 52 = .ok (.iload_n 2, 1) := by decide +kernel
theorem dX6_mattersOf_53 : decode cX6_mattersOf 53 = .ok (.iconst (-1), 1) := by decide +kernel
theorem dX6_mattersOf_54 : decode cX6_mattersOf 54 = .ok (.iastore, 1) := by decide +kernel
theorem dX6_mattersOf_55 : decode cX6_mattersOf 55 = .ok (.lload 4, 2) := by decide +kernel
theorem dX6_mattersOf_57 : decode cX6_mattersOf 57 = .ok (.lreturn, 1) := by decide +kernel
theorem dX6_matters_0 : decode cX6_matters 0 = .ok (.aload_n 0, 1) := by decide +kernel
theorem dX6_matters_1 : decode cX6_matters 1 = .ok (.iload_n 1, 1) := by decide +kernel
theorem dX6_matters_2 : decode cX6_matters 2 = .ok (.invokevirtual 130, 3) := by decide +kernel
theorem dX6_matters_5 : decode cX6_matters 5 = .ok (.ifCond .eq 18, 3) := by decide +kernel
theorem dX6_matters_8 : decode cX6_matters 8 = .ok (.aload_n 0, 1) := by decide +kernel
theorem dX6_matters_9 : decode cX6_matters 9 = .ok (.iload_n 2, 1) := by decide +kernel
theorem dX6_matters_10 : decode cX6_matters 10 = .ok (.invokevirtual 89, 3) := by decide +kernel
theorem dX6_matters_13 : decode cX6_matters 13 = .ok (.ifCond .eq 10, 3) := by decide +kernel
theorem dX6_matters_16 : decode cX6_matters 16 = .ok (.iload_n 3, 1) := by decide +kernel
theorem dX6_matters_17 : decode cX6_matters 17 = .ok (.invokestatic 93, 3) := by decide +kernel
theorem dX6_matters_20 : decode cX6_matters 20 = .ok (.ifCond .ne 7, 3) := by decide +kernel
theorem dX6_matters_23 : decode cX6_matters 23 = .ok (.ldc2_w 152, 3) := by decide +kernel
theorem dX6_matters_26 : decode cX6_matters 26 = .ok (.lreturn, 1) := by decide +kernel
theorem dX6_matters_27 : decode cX6_matters 27 = .ok (.aload_n 0, 1) := by decide +kernel
theorem dX6_matters_28 : decode cX6_matters 28 = .ok (.iload_n 1, 1) := by decide +kernel
theorem dX6_matters_29 : decode cX6_matters 29 = .ok (.invokevirtual 135, 3) := by decide +kernel
theorem dX6_matters_32 : decode cX6_matters 32 = .ok (.bipush 8, 2) := by decide +kernel
theorem dX6_matters_34 : decode cX6_matters 34 = .ok (.if_icmp .le 9, 3) := by decide +kernel
theorem dX6_matters_37 : decode cX6_matters 37 = .ok (.ldc2_w 154, 3) := by decide +kernel
theorem dX6_matters_40 : decode cX6_matters 40 = .ok (.goto 10, 3) := by decide +kernel
theorem dX6_matters_43 : decode cX6_matters 43 = .ok (.aload_n 0, 1) := by decide +kernel
theorem dX6_matters_44 : decode cX6_matters 44 = .ok (.iload_n 1, 1) := by decide +kernel
theorem dX6_matters_45 : decode cX6_matters 45 = .ok (.iload_n 2, 1) := by decide +kernel
theorem dX6_matters_46 : decode cX6_matters 46 = .ok (.iload_n 3, 1) := by decide +kernel
theorem dX6_matters_47 : decode cX6_matters 47 = .ok (.invokevirtual 165, 3) := by decide +kernel
theorem dX6_matters_50 : decode cX6_matters 50 = .ok (.lreturn, 1) := by decide +kernel
theorem dX6_most_0 : decode cX6_most 0 = .ok (.aload_n 0, 1) := by decide +kernel
theorem dX6_most_1 : decode cX6_most 1 = .ok (.iload_n 1, 1) := by decide +kernel
theorem dX6_most_2 : decode cX6_most 2 = .ok (.invokevirtual 130, 3) := by decide +kernel
theorem dX6_most_5 : decode cX6_most 5 = .ok (.ifCond .eq 10, 3) := by decide +kernel
theorem dX6_most_8 : decode cX6_most 8 = .ok (.iload_n 2, 1) := by decide +kernel
theorem dX6_most_9 : decode cX6_most 9 = .ok (.invokestatic 93, 3) := by decide +kernel
theorem dX6_most_12 : decode cX6_most 12 = .ok (.ifCond .ne 5, 3) := by decide +kernel
theorem dX6_most_15 : decode cX6_most 15 = .ok (.iconst (-1), 1) := by decide +kernel
theorem dX6_most_16 : decode cX6_most 16 = .ok (.ireturn, 1) := by decide +kernel
theorem dX6_most_17 : decode cX6_most 17 = .ok (.aload_n 0, 1) := by decide +kernel
theorem dX6_most_18 : decode cX6_most 18 = .ok (.iload_n 1, 1) := by decide +kernel
theorem dX6_most_19 : decode cX6_most 19 = .ok (.invokevirtual 135, 3) := by decide +kernel
theorem dX6_most_22 : decode cX6_most 22 = .ok (.bipush 8, 2) := by decide +kernel
theorem dX6_most_24 : decode cX6_most 24 = .ok (.if_icmp .le 6, 3) := by decide +kernel
theorem dX6_most_27 : decode cX6_most 27 = .ok (.bipush (-2), 2) := by decide +kernel
theorem dX6_most_29 : decode cX6_most 29 = .ok (.ireturn, 1) := by decide +kernel
theorem dX6_most_30 : decode cX6_most 30 = .ok (.aload_n 0, 1) := by decide +kernel
theorem dX6_most_31 : decode cX6_most 31 = .ok (.iload_n 1, 1) := by decide +kernel
theorem dX6_most_32 : decode cX6_most 32 = .ok (.invokevirtual 124, 3) := by decide +kernel
theorem dX6_most_35 : decode cX6_most 35 = .ok (.istore_n 3, 1) := by decide +kernel
theorem dX6_most_36 : decode cX6_most 36 = .ok (.iconst (-1), 1) := by decide +kernel
theorem dX6_most_37 : decode cX6_most 37 = .ok (.istore 4, 2) := by decide +kernel
theorem dX6_most_39 : decode cX6_most 39 = .ok (.ldc2_w 152, 3) := by decide +kernel
theorem dX6_most_42 : decode cX6_most 42 = .ok (.lstore 5, 2) := by decide +kernel
theorem dX6_most_44 : decode cX6_most 44 = .ok (.iconst 0, 1) := by decide +kernel
theorem dX6_most_45 : decode cX6_most 45 = .ok (.istore 7, 2) := by decide +kernel
theorem dX6_most_47 : decode cX6_most 47 = .ok (.iload 7, 2) := by decide +kernel
theorem dX6_most_49 : decode cX6_most 49 = .ok (.aload_n 0, 1) := by decide +kernel
theorem dX6_most_50 : decode cX6_most 50 = .ok (.getfield 74, 3) := by decide +kernel
theorem dX6_most_53 : decode cX6_most 53 = .ok (.if_icmp .ge 69, 3) := by decide +kernel
theorem dX6_most_56 : decode cX6_most 56 = .ok (.iload_n 3, 1) := by decide +kernel
theorem dX6_most_57 : decode cX6_most 57 = .ok (.iload 7, 2) := by decide +kernel
theorem dX6_most_59 : decode cX6_most 59 = .ok (.ishr, 1) := by decide +kernel
theorem dX6_most_60 : decode cX6_most 60 = .ok (.iconst 1, 1) := by decide +kernel
theorem dX6_most_61 : decode cX6_most 61 = .ok (.iand, 1) := by decide +kernel
theorem dX6_most_62 : decode cX6_most 62 = .ok (.iconst 1, 1) := by decide +kernel
theorem dX6_most_63 : decode cX6_most 63 = .ok (.if_icmp .ne 14, 3) := by decide +kernel
theorem dX6_most_66 : decode cX6_most 66 = .ok (.aload_n 0, 1) := by decide +kernel
theorem dX6_most_67 : decode cX6_most 67 = .ok (.iload_n 1, 1) := by decide +kernel
theorem dX6_most_68 : decode cX6_most 68 = .ok (.iload 7, 2) := by decide +kernel
theorem dX6_most_70 : decode cX6_most 70 = .ok (.iload_n 2, 1) := by decide +kernel
theorem dX6_most_71 : decode cX6_most 71 = .ok (.invokevirtual 165, 3) := by decide +kernel
theorem dX6_most_74 : decode cX6_most 74 = .ok (.goto 6, 3) := by decide +kernel
theorem dX6_most_77 : decode cX6_most 77 = .ok (.ldc2_w 152, 3) := by decide +kernel
theorem dX6_most_80 : decode cX6_most 80 = .ok (.lstore 8, 2) := by decide +kernel
theorem dX6_most_82 : decode cX6_most 82 = .ok (.lload 8, 2) := by decide +kernel
theorem dX6_most_84 : decode cX6_most 84 = .ok (.lload 5, 2) := by decide +kernel
theorem dX6_most_86 : decode cX6_most 86 = .ok (.lcmp, 1) := by decide +kernel
theorem dX6_most_87 : decode cX6_most 87 = .ok (.ifCond .le 8, 3) := by decide +kernel
theorem dX6_most_90 : decode cX6_most 90 = .ok (.iload 7, 2) := by decide +kernel
theorem dX6_most_92 : decode cX6_most 92 = .ok (.goto 5, 3) := by decide +kernel
theorem dX6_most_95 : decode cX6_most 95 = .ok (.iload 4, 2) := by decide +kernel
theorem dX6_most_97 : decode cX6_most 97 = .ok (.istore 4, 2) := by decide +kernel
theorem dX6_most_99 : decode cX6_most 99 = .ok (.lload 8, 2) := by decide +kernel
theorem dX6_most_101 : decode cX6_most 101 = .ok (.lload 5, 2) := by decide +kernel
theorem dX6_most_103 : decode cX6_most 103 = .ok (.lcmp, 1) := by decide +kernel
theorem dX6_most_104 : decode cX6_most 104 = .ok (.ifCond .le 8, 3) := by decide +kernel
theorem dX6_most_107 : decode cX6_most 107 = .ok (.lload 8, 2) := by decide +kernel
theorem dX6_most_109 : decode cX6_most 109 = .ok (.goto 5, 3) := by decide +kernel
theorem dX6_most_112 : decode cX6_most 112 = .ok (.lload 5, 2) := by decide +kernel
theorem dX6_most_114 : decode cX6_most 114 = .ok (.lstore 5, 2) := by decide +kernel
theorem dX6_most_116 : decode cX6_most 116 = .ok (.iinc 7 1, 3) := by decide +kernel
theorem dX6_most_119 : decode cX6_most 119 = .ok (.goto (-72), 3) := by decide +kernel
theorem dX6_most_122 : decode cX6_most 122 = .ok (.iload 4, 2) := by decide +kernel
theorem dX6_most_124 : decode cX6_most 124 = .ok (.ireturn, 1) := by decide +kernel
theorem dX6_cost_0 : decode cX6_cost 0 = .ok (.aload_n 0, 1) := by decide +kernel
theorem dX6_cost_1 : decode cX6_cost 1 = .ok (.iload_n 1, 1) := by decide +kernel
theorem dX6_cost_2 : decode cX6_cost 2 = .ok (.invokevirtual 89, 3) := by decide +kernel
theorem dX6_cost_5 : decode cX6_cost 5 = .ok (.ifCond .eq 15, 3) := by decide +kernel
theorem dX6_cost_8 : decode cX6_cost 8 = .ok (.iload_n 2, 1) := by decide +kernel
theorem dX6_cost_9 : decode cX6_cost 9 = .ok (.i2l, 1) := by decide +kernel
theorem dX6_cost_10 : decode cX6_cost 10 = .ok (.lconst 0, 1) := by decide +kernel
theorem dX6_cost_11 : decode cX6_cost 11 = .ok (.ldc2_w 169, 3) := by decide +kernel
theorem dX6_cost_14 : decode cX6_cost 14 = .ok (.invokestatic 78, 3) := by decide +kernel
theorem dX6_cost_17 : decode cX6_cost 17 = .ok (.ifCond .ne 5, 3) := by decide +kernel
theorem dX6_cost_20 : decode cX6_cost 20 = .ok (.iconst (-1), 1) := by decide +kernel
theorem dX6_cost_21 : decode cX6_cost 21 = .ok (.ireturn, 1) := by decide +kernel
theorem dX6_cost_22 : decode cX6_cost 22 = .ok (.aload_n 0, 1) := by decide +kernel
theorem dX6_cost_23 : decode cX6_cost 23 = .ok (.getfield 19, 3) := by decide +kernel
theorem dX6_cost_26 : decode cX6_cost 26 = .ok (.iload_n 1, 1) := by decide +kernel
theorem dX6_cost_27 : decode cX6_cost 27 = .ok (.iaload, 1) := by decide +kernel
theorem dX6_cost_28 : decode cX6_cost 28 = .ok (.istore_n 3, 1) := by decide +kernel
theorem dX6_cost_29 : decode cX6_cost 29 = .ok (.aload_n 0, 1) := by decide +kernel
theorem dX6_cost_30 : decode cX6_cost 30 = .ok (.getfield 19, 3) := by decide +kernel
theorem dX6_cost_33 : decode cX6_cost 33 = .ok (.iload_n 1, 1) := by decide +kernel
theorem dX6_cost_34 : decode cX6_cost 34 = .ok (.iload_n 2, 1) := by decide +kernel
theorem dX6_cost_35 : decode cX6_cost 35 = .ok (.iastore, 1) := by decide +kernel
theorem dX6_cost_36 : decode cX6_cost 36 = .ok (.iload_n 3, 1) := by decide +kernel
theorem dX6_cost_37 : decode cX6_cost 37 = .ok (.ireturn, 1) := by decide +kernel
theorem dX6_laid_0 : decode cX6_laid 0 = .ok (.iconst 0, 1) := by decide +kernel
theorem dX6_laid_1 : decode cX6_laid 1 = .ok (.istore 4, 2) := by decide +kernel
theorem dX6_laid_3 : decode cX6_laid 3 = .ok (.iconst 1, 1) := by decide +kernel
theorem dX6_laid_4 : decode cX6_laid 4 = .ok (.istore 5, 2) := by decide +kernel
theorem dX6_laid_6 : decode cX6_laid 6 = .ok (.iconst 1, 1) := by decide +kernel
theorem dX6_laid_7 : decode cX6_laid 7 = .ok (.istore 6, 2) := by decide +kernel
theorem dX6_laid_9 : decode cX6_laid 9 = .ok (.iload 6, 2) := by decide +kernel
theorem dX6_laid_11 : decode cX6_laid 11 = .ok (.iload_n 2, 1) := by decide +kernel
theorem dX6_laid_12 : decode cX6_laid 12 = .ok (.if_icmp .ge 15, 3) := by decide +kernel
theorem dX6_laid_15 : decode cX6_laid 15 = .ok (.iload 5, 2) := by decide +kernel
theorem dX6_laid_17 : decode cX6_laid 17 = .ok (.iconst 3, 1) := by decide +kernel
theorem dX6_laid_18 : decode cX6_laid 18 = .ok (.imul, 1) := by decide +kernel
theorem dX6_laid_19 : decode cX6_laid 19 = .ok (.istore 5, 2) := by decide +kernel
theorem dX6_laid_21 : decode cX6_laid 21 = .ok (.iinc 6 1, 3) := by decide +kernel
theorem dX6_laid_24 : decode cX6_laid 24 = .ok (.goto (-15), 3) := by decide +kernel
theorem dX6_laid_27 : decode cX6_laid 27 = .ok (.iconst 0, 1) := by decide +kernel
theorem dX6_laid_28 : decode cX6_laid 28 = .ok (.istore 6, 2) := by decide +kernel
theorem dX6_laid_30 : decode cX6_laid 30 = .ok (.iload 6, 2) := by decide +kernel
theorem dX6_laid_32 : decode cX6_laid 32 = .ok (.aload_n 0, 1) := by decide +kernel
theorem dX6_laid_33 : decode cX6_laid 33 = .ok (.getfield 74, 3) := by decide +kernel
theorem dX6_laid_36 : decode cX6_laid 36 = .ok (.if_icmp .ge 66, 3) := by decide +kernel
theorem dX6_laid_39 : decode cX6_laid 39 = .ok (.iload_n 1, 1) := by decide +kernel
theorem dX6_laid_40 : decode cX6_laid 40 = .ok (.iload 6, 2) := by decide +kernel
theorem dX6_laid_42 : decode cX6_laid 42 = .ok (.ishr, 1) := by decide +kernel
theorem dX6_laid_43 : decode cX6_laid 43 = .ok (.iconst 1, 1) := by decide +kernel
theorem dX6_laid_44 : decode cX6_laid 44 = .ok (.iand, 1) := by decide +kernel
theorem dX6_laid_45 : decode cX6_laid 45 = .ok (.iconst 1, 1) := by decide +kernel
theorem dX6_laid_46 : decode cX6_laid 46 = .ok (.if_icmp .ne 50, 3) := by decide +kernel
theorem dX6_laid_49 : decode cX6_laid 49 = .ok (.aload_n 0, 1) := by decide +kernel
theorem dX6_laid_50 : decode cX6_laid 50 = .ok (.getfield 28, 3) := by decide +kernel
theorem dX6_laid_53 : decode cX6_laid 53 = .ok (.iload 6, 2) := by decide +kernel
theorem dX6_laid_55 : decode cX6_laid 55 = .ok (.aload_n 0, 1) := by decide +kernel
theorem dX6_laid_56 : decode cX6_laid 56 = .ok (.getfield 71, 3) := by decide +kernel
theorem dX6_laid_59 : decode cX6_laid 59 = .ok (.iload_n 3, 1) := by decide +kernel
theorem dX6_laid_60 : decode cX6_laid 60 = .ok (.iload 5, 2) := by decide +kernel
theorem dX6_laid_62 : decode cX6_laid 62 = .ok (.idiv, 1) := by decide +kernel
theorem dX6_laid_63 : decode cX6_laid 63 = .ok (.iconst 3, 1) := by decide +kernel
theorem dX6_laid_64 : decode cX6_laid 64 = .ok (.irem, 1) := by decide +kernel
theorem dX6_laid_65 : decode cX6_laid 65 = .ok (.iaload, 1) := by decide +kernel
theorem dX6_laid_66 : decode cX6_laid 66 = .ok (.iastore, 1) := by decide +kernel
theorem dX6_laid_67 : decode cX6_laid 67 = .ok (.iload 4, 2) := by decide +kernel
theorem dX6_laid_69 : decode cX6_laid 69 = .ok (.aload_n 0, 1) := by decide +kernel
theorem dX6_laid_70 : decode cX6_laid 70 = .ok (.getfield 19, 3) := by decide +kernel
theorem dX6_laid_73 : decode cX6_laid 73 = .ok (.iload 6, 2) := by decide +kernel
theorem dX6_laid_75 : decode cX6_laid 75 = .ok (.iaload, 1) := by decide +kernel
theorem dX6_laid_76 : decode cX6_laid 76 = .ok (.bipush 100, 2) := by decide +kernel
theorem dX6_laid_78 : decode cX6_laid 78 = .ok (.aload_n 0, 1) := by decide +kernel
theorem dX6_laid_79 : decode cX6_laid 79 = .ok (.getfield 28, 3) := by decide +kernel
theorem dX6_laid_82 : decode cX6_laid 82 = .ok (.iload 6, 2) := by decide +kernel
theorem dX6_laid_84 : decode cX6_laid 84 = .ok (.iaload, 1) := by decide +kernel
theorem dX6_laid_85 : decode cX6_laid 85 = .ok (.idiv, 1) := by decide +kernel
theorem dX6_laid_86 : decode cX6_laid 86 = .ok (.imul, 1) := by decide +kernel
theorem dX6_laid_87 : decode cX6_laid 87 = .ok (.iadd, 1) := by decide +kernel
theorem dX6_laid_88 : decode cX6_laid 88 = .ok (.istore 4, 2) := by decide +kernel
theorem dX6_laid_90 : decode cX6_laid 90 = .ok (.iload 5, 2) := by decide +kernel
theorem dX6_laid_92 : decode cX6_laid 92 = .ok (.iconst 3, 1) := by decide +kernel
theorem dX6_laid_93 : decode cX6_laid 93 = .ok (.idiv, 1) := by decide +kernel
theorem dX6_laid_94 : decode cX6_laid 94 = .ok (.istore 5, 2) := by decide +kernel
theorem dX6_laid_96 : decode cX6_laid 96 = .ok (.iinc 6 1, 3) := by decide +kernel
theorem dX6_laid_99 : decode cX6_laid 99 = .ok (.goto (-69), 3) := by decide +kernel
theorem dX6_laid_102 : decode cX6_laid 102 = .ok (.iload 4, 2) := by decide +kernel
theorem dX6_laid_104 : decode cX6_laid 104 = .ok (.ireturn, 1) := by decide +kernel
theorem dX6_lifted_0 : decode cX6_lifted 0 = .ok (.iconst 0, 1) := by decide +kernel
theorem dX6_lifted_1 : decode cX6_lifted 1 = .ok (.istore_n 1, 1) := by decide +kernel
theorem dX6_lifted_2 : decode cX6_lifted 2 = .ok (.iload_n 1, 1) := by decide +kernel
theorem dX6_lifted_3 : decode cX6_lifted 3 = .ok (.bipush 12, 2) := by decide +kernel
theorem dX6_lifted_5 : decode cX6_lifted 5 = .ok (.if_icmp .ge 16, 3) := by decide +kernel
theorem dX6_lifted_8 : decode cX6_lifted 8 = .ok (.aload_n 0, 1) := by decide +kernel
theorem dX6_lifted_9 : decode cX6_lifted 9 = .ok (.getfield 28, 3) := by decide +kernel
theorem dX6_lifted_12 : decode cX6_lifted 12 = .ok (.iload_n 1, 1) := by decide +kernel
theorem dX6_lifted_13 : decode cX6_lifted 13 = .ok (.iconst 0, 1) := by decide +kernel
theorem dX6_lifted_14 : decode cX6_lifted 14 = .ok (.iastore, 1) := by decide +kernel
theorem dX6_lifted_15 : decode cX6_lifted 15 = .ok (.iinc 1 1, 3) := by decide +kernel
theorem dX6_lifted_18 : decode cX6_lifted 18 = .ok (.goto (-16), 3) := by decide +kernel
theorem dX6_lifted_21 : decode cX6_lifted 21 = .ok (.return_, 1) := by decide +kernel
theorem dX6_plan_0 : decode cX6_plan 0 = .ok (.aload_n 0, 1) := by decide +kernel
theorem dX6_plan_1 : decode cX6_plan 1 = .ok (.iload_n 1, 1) := by decide +kernel
theorem dX6_plan_2 : decode cX6_plan 2 = .ok (.invokevirtual 130, 3) := by decide +kernel
theorem dX6_plan_5 : decode cX6_plan 5 = .ok (.ifCond .eq 63, 3) := by decide +kernel
theorem dX6_plan_8 : decode cX6_plan 8 = .ok (.iload_n 2, 1) := by decide +kernel
theorem dX6_plan_9 : decode cX6_plan 9 = .ok (.i2l, 1) := by decide +kernel
theorem dX6_plan_10 : decode cX6_plan 10 = .ok (.lconst 1, 1) := by decide +kernel
theorem dX6_plan_11 : decode cX6_plan 11 = .ok (.ldc2_w 171, 3) := by decide +kernel
theorem dX6_plan_14 : decode cX6_plan 14 = .ok (.invokestatic 78, 3) := by decide +kernel
theorem dX6_plan_17 : decode cX6_plan 17 = .ok (.ifCond .eq 51, 3) := by decide +kernel
theorem dX6_plan_20 : decode cX6_plan 20 = .ok (.iload_n 3, 1) := by decide +kernel
theorem dX6_plan_21 : decode cX6_plan 21 = .ok (.i2l, 1) := by decide +kernel
theorem dX6_plan_22 : decode cX6_plan 22 = .ok (.lconst 1, 1) := by decide +kernel
theorem dX6_plan_23 : decode cX6_plan 23 = .ok (.ldc2_w 171, 3) := by decide +kernel
theorem dX6_plan_26 : decode cX6_plan 26 = .ok (.invokestatic 78, 3) := by decide +kernel
theorem dX6_plan_29 : decode cX6_plan 29 = .ok (.ifCond .eq 39, 3) := by decide +kernel
theorem dX6_plan_32 : decode cX6_plan 32 = .ok (.iload 4, 2) := by decide +kernel
theorem dX6_plan_34 : decode cX6_plan 34 = .ok (.i2l, 1) := by decide +kernel
theorem dX6_plan_35 : decode cX6_plan 35 = .ok (.lconst 1, 1) := by decide +kernel
theorem dX6_plan_36 : decode cX6_plan 36 = .ok (.ldc2_w 171, 3) := by decide +kernel
theorem dX6_plan_39 : decode cX6_plan 39 = .ok (.invokestatic 78, 3) := by decide +kernel
theorem dX6_plan_42 : decode cX6_plan 42 = .ok (.ifCond .eq 26, 3) := by decide +kernel
theorem dX6_plan_45 : decode cX6_plan 45 = .ok (.lload 5, 2) := by decide +kernel
theorem dX6_plan_47 : decode cX6_plan 47 = .ok (.lconst 0, 1) := by decide +kernel
theorem dX6_plan_48 : decode cX6_plan 48 = .ok (.ldc2_w 173, 3) := by decide +kernel
theorem dX6_plan_51 : decode cX6_plan 51 = .ok (.invokestatic 78, 3) := by decide +kernel
theorem dX6_plan_54 : decode cX6_plan 54 = .ok (.ifCond .eq 14, 3) := by decide +kernel
theorem dX6_plan_57 : decode cX6_plan 57 = .ok (.iload 7, 2) := by decide +kernel
theorem dX6_plan_59 : decode cX6_plan 59 = .ok (.i2l, 1) := by decide +kernel
theorem dX6_plan_60 : decode cX6_plan 60 = .ok (.lconst 0, 1) := by decide +kernel
theorem dX6_plan_61 : decode cX6_plan 61 = .ok (.lconst 1, 1) := by decide +kernel
theorem dX6_plan_62 : decode cX6_plan 62 = .ok (.invokestatic 78, 3) := by decide +kernel
theorem dX6_plan_65 : decode cX6_plan 65 = .ok (.ifCond .ne 5, 3) := by decide +kernel
theorem dX6_plan_68 : decode cX6_plan 68 = .ok (.iconst (-1), 1) := by decide +kernel
theorem dX6_plan_69 : decode cX6_plan 69 = .ok (.ireturn, 1) := by decide +kernel
theorem dX6_plan_70 : decode cX6_plan 70 = .ok (.aload_n 0, 1) := by decide +kernel
theorem dX6_plan_71 : decode cX6_plan 71 = .ok (.iload_n 1, 1) := by decide +kernel
theorem dX6_plan_72 : decode cX6_plan 72 = .ok (.invokevirtual 124, 3) := by decide +kernel
theorem dX6_plan_75 : decode cX6_plan 75 = .ok (.istore 8, 2) := by decide +kernel
theorem dX6_plan_77 : decode cX6_plan 77 = .ok (.iload 8, 2) := by decide +kernel
theorem dX6_plan_79 : decode cX6_plan 79 = .ok (.invokestatic 106, 3) := by decide +kernel
theorem dX6_plan_82 : decode cX6_plan 82 = .ok (.istore 9, 2) := by decide +kernel
theorem dX6_plan_84 : decode cX6_plan 84 = .ok (.iload 9, 2) := by decide +kernel
theorem dX6_plan_86 : decode cX6_plan 86 = .ok (.iconst 3, 1) := by decide +kernel
theorem dX6_plan_87 : decode cX6_plan 87 = .ok (.if_icmp .gt 13, 3) := by decide +kernel
theorem dX6_plan_90 : decode cX6_plan 90 = .ok (.aload_n 0, 1) := by decide +kernel
theorem dX6_plan_91 : decode cX6_plan 91 = .ok (.iload_n 1, 1) := by decide +kernel
theorem dX6_plan_92 : decode cX6_plan 92 = .ok (.invokevirtual 135, 3) := by decide +kernel
theorem dX6_plan_95 : decode cX6_plan 95 = .ok (.bipush 8, 2) := by decide +kernel
theorem dX6_plan_97 : decode cX6_plan 97 = .ok (.if_icmp .le 6, 3) := by decide +kernel
theorem dX6_plan_100 : decode cX6_plan 100 = .ok (.bipush (-2), 2) := by decide +kernel
theorem dX6_plan_102 : decode cX6_plan 102 = .ok (.ireturn, 1) := by decide +kernel
theorem dX6_plan_103 : decode cX6_plan 103 = .ok (.aload_n 0, 1) := by decide +kernel
theorem dX6_plan_104 : decode cX6_plan 104 = .ok (.getfield 71, 3) := by decide +kernel
theorem dX6_plan_107 : decode cX6_plan 107 = .ok (.iconst 0, 1) := by decide +kernel
theorem dX6_plan_108 : decode cX6_plan 108 = .ok (.iload_n 2, 1) := by decide +kernel
theorem dX6_plan_109 : decode cX6_plan 109 = .ok (.iastore, 1) := by decide +kernel
theorem dX6_plan_110 : decode cX6_plan 110 = .ok (.aload_n 0, 1) := by decide +kernel
theorem dX6_plan_111 : decode cX6_plan 111 = .ok (.getfield 71, 3) := by decide +kernel
theorem dX6_plan_114 : decode cX6_plan 114 = .ok (.iconst 1, 1) := by decide +kernel
theorem dX6_plan_115 : decode cX6_plan 115 = .ok (.iload_n 3, 1) := by decide +kernel
theorem dX6_plan_116 : decode cX6_plan 116 = .ok (.iastore, 1) := by decide +kernel
theorem dX6_plan_117 : decode cX6_plan 117 = .ok (.aload_n 0, 1) := by decide +kernel
theorem dX6_plan_118 : decode cX6_plan 118 = .ok (.getfield 71, 3) := by decide +kernel
theorem dX6_plan_121 : decode cX6_plan 121 = .ok (.iconst 2, 1) := by decide +kernel
theorem dX6_plan_122 : decode cX6_plan 122 = .ok (.iload 4, 2) := by decide +kernel
theorem dX6_plan_124 : decode cX6_plan 124 = .ok (.iastore, 1) := by decide +kernel
theorem dX6_plan_125 : decode cX6_plan 125 = .ok (.bipush (-4), 2) := by decide +kernel
theorem dX6_plan_127 : decode cX6_plan 127 = .ok (.istore 10, 2) := by decide +kernel
theorem dX6_plan_129 : decode cX6_plan 129 = .ok (.iconst (-1), 1) := by decide +kernel
theorem dX6_plan_130 : decode cX6_plan 130 = .ok (.istore 11, 2) := by decide +kernel
theorem dX6_plan_132 : decode cX6_plan 132 = .ok (.iload 9, 2) := by decide +kernel
theorem dX6_plan_134 : decode cX6_plan 134 = .ok (.iconst 1, 1) := by decide +kernel
theorem dX6_plan_135 : decode cX6_plan 135 = .ok (.if_icmp .ne 7, 3) := by decide +kernel
theorem dX6_plan_138 : decode cX6_plan 138 = .ok (.iconst 3, 1) := by decide +kernel
theorem dX6_plan_139 : decode cX6_plan 139 = .ok (.goto 16, 3) := by decide +kernel
theorem dX6_plan_142 : decode cX6_plan 142 = .ok (.iload 9, 2) := by decide +kernel
theorem dX6_plan_144 : decode cX6_plan 144 = .ok (.iconst 2, 1) := by decide +kernel
theorem dX6_plan_145 : decode cX6_plan 145 = .ok (.if_icmp .ne 8, 3) := by decide +kernel
theorem dX6_plan_148 : decode cX6_plan 148 = .ok (.bipush 9, 2) := by decide +kernel
theorem dX6_plan_150 : decode cX6_plan 150 = .ok (.goto 5, 3) := by decide +kernel
theorem dX6_plan_153 : decode cX6_plan 153 = .ok (.bipush 27, 2) := by decide +kernel
theorem dX6_plan_155 : decode cX6_plan 155 = .ok (.istore 12, 2) := by decide +kernel
theorem dX6_plan_157 : decode cX6_plan 157 = .ok (.iconst 0, 1) := by decide +kernel
theorem dX6_plan_158 : decode cX6_plan 158 = .ok (.istore 13, 2) := by decide +kernel
theorem dX6_plan_160 : decode cX6_plan 160 = .ok (.iload 13, 2) := by decide +kernel
theorem dX6_plan_162 : decode cX6_plan 162 = .ok (.iload 12, 2) := by decide +kernel
theorem dX6_plan_164 : decode cX6_plan 164 = .ok (.if_icmp .ge 92, 3) := by decide +kernel
theorem dX6_plan_167 : decode cX6_plan 167 = .ok (.aload_n 0, 1) := by decide +kernel
theorem dX6_plan_168 : decode cX6_plan 168 = .ok (.iload 8, 2) := by decide +kernel
theorem dX6_plan_170 : decode cX6_plan 170 = .ok (.iload 9, 2) := by decide +kernel
theorem dX6_plan_172 : decode cX6_plan 172 = .ok (.iload 13, 2) := by decide +kernel
theorem dX6_plan_174 : decode cX6_plan 174 = .ok (.invokevirtual 175, 3) := by decide +kernel
theorem dX6_plan_177 : decode cX6_plan 177 = .ok (.istore 14, 2) := by decide +kernel
theorem dX6_plan_179 : decode cX6_plan 179 = .ok (.lconst 0, 1) := by decide +kernel
theorem dX6_plan_180 : decode cX6_plan 180 = .ok (.lstore 15, 2) := by decide +kernel
theorem dX6_plan_182 : decode cX6_plan 182 = .ok (.iconst 0, 1) := by decide +kernel
theorem dX6_plan_183 : decode cX6_plan 183 = .ok (.istore 17, 2) := by decide +kernel
theorem dX6_plan_185 : decode cX6_plan 185 = .ok (.iload 17, 2) := by decide +kernel
theorem dX6_plan_187 : decode cX6_plan 187 = .ok (.bipush 100, 2) := by decide +kernel
theorem dX6_plan_189 : decode cX6_plan 189 = .ok (.if_icmp .ge 33, 3) := by decide +kernel
theorem dX6_plan_192 : decode cX6_plan 192 = .ok (.iload 10, 2) := by decide +kernel
theorem dX6_plan_194 : decode cX6_plan 194 = .ok (.ifCond .lt 10, 3) := by decide +kernel
theorem dX6_plan_197 : decode cX6_plan 197 = .ok (.iload 14, 2) := by decide +kernel
theorem dX6_plan_199 : decode cX6_plan 199 = .ok (.iload 10, 2) := by decide +kernel
theorem dX6_plan_201 : decode cX6_plan 201 = .ok (.if_icmp .ge 21, 3) := by decide +kernel
theorem dX6_plan_204 : decode cX6_plan 204 = .ok (.lload 15, 2) := by decide +kernel
theorem dX6_plan_206 : decode cX6_plan 206 = .ok (.aload_n 0, 1) := by decide +kernel
theorem dX6_plan_207 : decode cX6_plan 207 = .ok (.iload_n 1, 1) := by decide +kernel
theorem dX6_plan_208 : decode cX6_plan 208 = .ok (.iload 17, 2) := by decide +kernel
theorem dX6_plan_210 : decode cX6_plan 210 = .ok (.invokevirtual 156, 3) := by decide +kernel
theorem dX6_plan_213 : decode cX6_plan 213 = .ok (.ladd, 1) := by decide +kernel
theorem dX6_plan_214 : decode cX6_plan 214 = .ok (.lstore 15, 2) := by decide +kernel
theorem dX6_plan_216 : decode cX6_plan 216 = .ok (.iinc 17 1, 3) := by decide +kernel
theorem dX6_plan_219 : decode cX6_plan 219 = .ok (.goto (-34), 3) := by decide +kernel
theorem dX6_plan_222 : decode cX6_plan 222 = .ok (.iload 10, 2) := by decide +kernel
theorem dX6_plan_224 : decode cX6_plan 224 = .ok (.ifCond .lt 10, 3) := by decide +kernel
theorem dX6_plan_227 : decode cX6_plan 227 = .ok (.iload 14, 2) := by decide +kernel
theorem dX6_plan_229 : decode cX6_plan 229 = .ok (.iload 10, 2) := by decide +kernel
theorem dX6_plan_231 : decode cX6_plan 231 = .ok (.if_icmp .ge 19, 3) := by decide +kernel
theorem dX6_plan_234 : decode cX6_plan 234 = .ok (.lload 15, 2) := by decide +kernel
theorem dX6_plan_236 : decode cX6_plan 236 = .ok (.lload 5, 2) := by decide +kernel
theorem dX6_plan_238 : decode cX6_plan 238 = .ok (.lcmp, 1) := by decide +kernel
theorem dX6_plan_239 : decode cX6_plan 239 = .ok (.ifCond .gt 11, 3) := by decide +kernel
theorem dX6_plan_242 : decode cX6_plan 242 = .ok (.iload 14, 2) := by decide +kernel
theorem dX6_plan_244 : decode cX6_plan 244 = .ok (.istore 10, 2) := by decide +kernel
theorem dX6_plan_246 : decode cX6_plan 246 = .ok (.iload 13, 2) := by decide +kernel
theorem dX6_plan_248 : decode cX6_plan 248 = .ok (.istore 11, 2) := by decide +kernel
theorem dX6_plan_250 : decode cX6_plan 250 = .ok (.iinc 13 1, 3) := by decide +kernel
theorem dX6_plan_253 : decode cX6_plan 253 = .ok (.goto (-93), 3) := by decide +kernel
theorem dX6_plan_256 : decode cX6_plan 256 = .ok (.aload_n 0, 1) := by decide +kernel
theorem dX6_plan_257 : decode cX6_plan 257 = .ok (.invokevirtual 179, 3) := by decide +kernel
theorem dX6_plan_260 : decode cX6_plan 260 = .ok (.iload 7, 2) := by decide +kernel
theorem dX6_plan_262 : decode cX6_plan 262 = .ok (.ifCond .eq 8, 3) := by decide +kernel
theorem dX6_plan_265 : decode cX6_plan 265 = .ok (.iload 11, 2) := by decide +kernel
theorem dX6_plan_267 : decode cX6_plan 267 = .ok (.ifCond .ge 6, 3) := by decide +kernel
theorem dX6_plan_270 : decode cX6_plan 270 = .ok (.iload 10, 2) := by decide +kernel
theorem dX6_plan_272 : decode cX6_plan 272 = .ok (.ireturn, 1) := by decide +kernel
theorem dX6_plan_273 : decode cX6_plan 273 = .ok (.iconst 0, 1) := by decide +kernel
theorem dX6_plan_274 : decode cX6_plan 274 = .ok (.istore 13, 2) := by decide +kernel
theorem dX6_plan_276 : decode cX6_plan 276 = .ok (.iload 11, 2) := by decide +kernel
theorem dX6_plan_278 : decode cX6_plan 278 = .ok (.istore 14, 2) := by decide +kernel
theorem dX6_plan_280 : decode cX6_plan 280 = .ok (.iconst 0, 1) := by decide +kernel
theorem dX6_plan_281 : decode cX6_plan 281 = .ok (.istore 15, 2) := by decide +kernel
theorem dX6_plan_283 : decode cX6_plan 283 = .ok (.iload 15, 2) := by decide +kernel
theorem dX6_plan_285 : decode cX6_plan 285 = .ok (.iload 9, 2) := by decide +kernel
theorem dX6_plan_287 : decode cX6_plan 287 = .ok (.if_icmp .ge 26, 3) := by decide +kernel
theorem dX6_plan_290 : decode cX6_plan 290 = .ok (.iconst 3, 1) := by decide +kernel
theorem dX6_plan_291 : decode cX6_plan 291 = .ok (.iload 13, 2) := by decide +kernel
theorem dX6_plan_293 : decode cX6_plan 293 = .ok (.imul, 1) := by decide +kernel
theorem dX6_plan_294 : decode cX6_plan 294 = .ok (.iload 14, 2) := by decide +kernel
theorem dX6_plan_296 : decode cX6_plan 296 = .ok (.iconst 3, 1) := by decide +kernel
theorem dX6_plan_297 : decode cX6_plan 297 = .ok (.irem, 1) := by decide +kernel
theorem dX6_plan_298 : decode cX6_plan 298 = .ok (.iadd, 1) := by decide +kernel
theorem dX6_plan_299 : decode cX6_plan 299 = .ok (.istore 13, 2) := by decide +kernel
theorem dX6_plan_301 : decode cX6_plan 301 = .ok (.iload 14, 2) := by decide +kernel
theorem dX6_plan_303 : decode cX6_plan 303 = .ok (.iconst 3, 1) := by decide +kernel
theorem dX6_plan_304 : decode cX6_plan 304 = .ok (.idiv, 1) := by decide +kernel
theorem dX6_plan_305 : decode cX6_plan 305 = .ok (.istore 14, 2) := by decide +kernel
theorem dX6_plan_307 : decode cX6_plan 307 = .ok (.iinc 15 1, 3) := by decide +kernel
theorem dX6_plan_310 : decode cX6_plan 310 = .ok (.goto (-27), 3) := by decide +kernel
theorem dX6_plan_313 : decode cX6_plan 313 = .ok (.iload 13, 2) := by decide +kernel
theorem dX6_plan_315 : decode cX6_plan 315 = .ok (.ireturn, 1) := by decide +kernel
theorem dX6_count_0 : decode cX6_count 0 = .ok (.iconst 0, 1) := by decide +kernel
theorem dX6_count_1 : decode cX6_count 1 = .ok (.istore_n 2, 1) := by decide +kernel
theorem dX6_count_2 : decode cX6_count 2 = .ok (.iconst 0, 1) := by decide +kernel
theorem dX6_count_3 : decode cX6_count 3 = .ok (.istore_n 3, 1) := by decide +kernel
theorem dX6_count_4 : decode cX6_count 4 = .ok (.iload_n 3, 1) := by decide +kernel
theorem dX6_count_5 : decode cX6_count 5 = .ok (.bipush 12, 2) := by decide +kernel
theorem dX6_count_7 : decode cX6_count 7 = .ok (.if_icmp .ge 18, 3) := by decide +kernel
theorem dX6_count_10 : decode cX6_count 10 = .ok (.iload_n 2, 1) := by decide +kernel
theorem dX6_count_11 : decode cX6_count 11 = .ok (.aload_n 0, 1) := by decide +kernel
theorem dX6_count_12 : decode cX6_count 12 = .ok (.getfield 22, 3) := by decide +kernel
theorem dX6_count_15 : decode cX6_count 15 = .ok (.iload_n 3, 1) := by decide +kernel
theorem dX6_count_16 : decode cX6_count 16 = .ok (.iaload, 1) := by decide +kernel
theorem dX6_count_17 : decode cX6_count 17 = .ok (.iadd, 1) := by decide +kernel
theorem dX6_count_18 : decode cX6_count 18 = .ok (.istore_n 2, 1) := by decide +kernel
theorem dX6_count_19 : decode cX6_count 19 = .ok (.iinc 3 1, 3) := by decide +kernel
theorem dX6_count_22 : decode cX6_count 22 = .ok (.goto (-18), 3) := by decide +kernel
theorem dX6_count_25 : decode cX6_count 25 = .ok (.iload_n 1, 1) := by decide +kernel
theorem dX6_count_26 : decode cX6_count 26 = .ok (.tableswitch 56 0 4 #[34, 39, 41, 46, 51], 34) := by decide +kernel
theorem dX6_count_60 : decode cX6_count 60 = .ok (.aload_n 0, 1) := by decide +kernel
theorem dX6_count_61 : decode cX6_count 61 = .ok (.getfield 74, 3) := by decide +kernel
theorem dX6_count_64 : decode cX6_count 64 = .ok (.ireturn, 1) := by decide +kernel
theorem dX6_count_65 : decode cX6_count 65 = .ok (.iload_n 2, 1) := by decide +kernel
theorem dX6_count_66 : decode cX6_count 66 = .ok (.ireturn, 1) := by decide +kernel
theorem dX6_count_67 : decode cX6_count 67 = .ok (.aload_n 0, 1) := by decide +kernel
theorem dX6_count_68 : decode cX6_count 68 = .ok (.getfield 100, 3) := by decide +kernel
theorem dX6_count_71 : decode cX6_count 71 = .ok (.ireturn, 1) := by decide +kernel
theorem dX6_count_72 : decode cX6_count 72 = .ok (.aload_n 0, 1) := by decide +kernel
theorem dX6_count_73 : decode cX6_count 73 = .ok (.getfield 110, 3) := by decide +kernel
theorem dX6_count_76 : decode cX6_count 76 = .ok (.ireturn, 1) := by decide +kernel
theorem dX6_count_77 : decode cX6_count 77 = .ok (.aload_n 0, 1) := by decide +kernel
theorem dX6_count_78 : decode cX6_count 78 = .ok (.getfield 82, 3) := by decide +kernel
theorem dX6_count_81 : decode cX6_count 81 = .ok (.ireturn, 1) := by decide +kernel
theorem dX6_count_82 : decode cX6_count 82 = .ok (.iconst (-1), 1) := by decide +kernel
theorem dX6_count_83 : decode cX6_count 83 = .ok (.ireturn, 1) := by decide +kernel
end
section
theorem dL_law_0 : decode cL_law 0 = .ok (.new 7, 3) := by decide +kernel
theorem dL_law_3 : decode cL_law 3 = .ok (.dup, 1) := by decide +kernel
theorem dL_law_4 : decode cL_law 4 = .ok (.invokespecial 9, 3) := by decide +kernel
theorem dL_law_7 : decode cL_law 7 = .ok (.astore_n 1, 1) := by decide +kernel
theorem dL_law_8 : decode cL_law 8 = .ok (.new 10, 3) := by decide +kernel
theorem dL_law_11 : decode cL_law 11 = .ok (.dup, 1) := by decide +kernel
theorem dL_law_12 : decode cL_law 12 = .ok (.invokespecial 12, 3) := by decide +kernel
theorem dL_law_15 : decode cL_law 15 = .ok (.astore_n 2, 1) := by decide +kernel
theorem dL_law_16 : decode cL_law 16 = .ok (.iconst 0, 1) := by decide +kernel
theorem dL_law_17 : decode cL_law 17 = .ok (.istore_n 3, 1) := by decide +kernel
theorem dL_law_18 : decode cL_law 18 = .ok (.iload_n 3, 1) := by decide +kernel
theorem dL_law_19 : decode cL_law 19 = .ok (.aload_n 0, 1) := by decide +kernel
theorem dL_law_20 : decode cL_law 20 = .ok (.arraylength, 1) := by decide +kernel
theorem dL_law_21 : decode cL_law 21 = .ok (.bipush 8, 2) := by decide +kernel
theorem dL_law_23 : decode cL_law 23 = .ok (.isub, 1) := by decide +kernel
theorem dL_law_24 : decode cL_law 24 = .ok (.if_icmp .gt 933, 3) := by decide +kernel
theorem dL_law_27 : decode cL_law 27 = .ok (.aload_n 0, 1) := by decide +kernel
theorem dL_law_28 : decode cL_law 28 = .ok (.iload_n 3, 1) := by decide +kernel
theorem dL_law_29 : decode cL_law 29 = .ok (.iaload, 1) := by decide +kernel
theorem dL_law_30 : decode cL_law 30 = .ok (.bipush 31, 2) := by decide +kernel
theorem dL_law_32 : decode cL_law 32 = .ok (.iand, 1) := by decide +kernel
theorem dL_law_33 : decode cL_law 33 = .ok (.tableswitch 918 0 18 #[91, 134, 167, 200, 243, 286, 319, 394, 427, 460, 493, 527, 571, 654, 678, 722, 755, 788, 895], 91) := by decide +kernel
theorem dL_law_124 : decode cL_law 124 = .ok (.aload_n 1, 1) := by decide +kernel
theorem dL_law_125 : decode cL_law 125 = .ok (.aload_n 0, 1) := by decide +kernel
theorem dL_law_126 : decode cL_law 126 = .ok (.iload_n 3, 1) := by decide +kernel
theorem dL_law_127 : decode cL_law 127 = .ok (.iconst 1, 1) := by decide +kernel
theorem dL_law_128 : decode cL_law 128 = .ok (.iadd, 1) := by decide +kernel
theorem dL_law_129 : decode cL_law 129 = .ok (.iaload, 1) := by decide +kernel
theorem dL_law_130 : decode cL_law 130 = .ok (.aload_n 0, 1) := by decide +kernel
theorem dL_law_131 : decode cL_law 131 = .ok (.iload_n 3, 1) := by decide +kernel
theorem dL_law_132 : decode cL_law 132 = .ok (.iconst 2, 1) := by decide +kernel
theorem dL_law_133 : decode cL_law 133 = .ok (.iadd, 1) := by decide +kernel
theorem dL_law_134 : decode cL_law 134 = .ok (.iaload, 1) := by decide +kernel
theorem dL_law_135 : decode cL_law 135 = .ok (.aload_n 0, 1) := by decide +kernel
theorem dL_law_136 : decode cL_law 136 = .ok (.iload_n 3, 1) := by decide +kernel
theorem dL_law_137 : decode cL_law 137 = .ok (.iconst 3, 1) := by decide +kernel
theorem dL_law_138 : decode cL_law 138 = .ok (.iadd, 1) := by decide +kernel
theorem dL_law_139 : decode cL_law 139 = .ok (.iaload, 1) := by decide +kernel
theorem dL_law_140 : decode cL_law 140 = .ok (.invokevirtual 13, 3) := by decide +kernel
theorem dL_law_143 : decode cL_law 143 = .ok (.aload_n 2, 1) := by decide +kernel
theorem dL_law_144 : decode cL_law 144 = .ok (.aload_n 0, 1) := by decide +kernel
theorem dL_law_145 : decode cL_law 145 = .ok (.iload_n 3, 1) := by decide +kernel
theorem dL_law_146 : decode cL_law 146 = .ok (.iconst 1, 1) := by decide +kernel
theorem dL_law_147 : decode cL_law 147 = .ok (.iadd, 1) := by decide +kernel
theorem dL_law_148 : decode cL_law 148 = .ok (.iaload, 1) := by decide +kernel
theorem dL_law_149 : decode cL_law 149 = .ok (.aload_n 0, 1) := by decide +kernel
theorem dL_law_150 : decode cL_law 150 = .ok (.iload_n 3, 1) := by decide +kernel
theorem dL_law_151 : decode cL_law 151 = .ok (.iconst 2, 1) := by decide +kernel
theorem dL_law_152 : decode cL_law 152 = .ok (.iadd, 1) := by decide +kernel
theorem dL_law_153 : decode cL_law 153 = .ok (.iaload, 1) := by decide +kernel
theorem dL_law_154 : decode cL_law 154 = .ok (.aload_n 0, 1) := by decide +kernel
theorem dL_law_155 : decode cL_law 155 = .ok (.iload_n 3, 1) := by decide +kernel
theorem dL_law_156 : decode cL_law 156 = .ok (.iconst 3, 1) := by decide +kernel
theorem dL_law_157 : decode cL_law 157 = .ok (.iadd, 1) := by decide +kernel
theorem dL_law_158 : decode cL_law 158 = .ok (.iaload, 1) := by decide +kernel
theorem dL_law_159 : decode cL_law 159 = .ok (.invokevirtual 17, 3) := by decide +kernel
theorem dL_law_162 : decode cL_law 162 = .ok (.if_icmp .eq 789, 3) := by decide +kernel
theorem dL_law_165 : decode cL_law 165 = .ok (.iconst 0, 1) := by decide +kernel
theorem dL_law_166 : decode cL_law 166 = .ok (.ireturn, 1) := by decide +kernel
theorem dL_law_167 : decode cL_law 167 = .ok (.aload_n 1, 1) := by decide +kernel
theorem dL_law_168 : decode cL_law 168 = .ok (.aload_n 0, 1) := by decide +kernel
theorem dL_law_169 : decode cL_law 169 = .ok (.iload_n 3, 1) := by decide +kernel
theorem dL_law_170 : decode cL_law 170 = .ok (.iconst 1, 1) := by decide +kernel
theorem dL_law_171 : decode cL_law 171 = .ok (.iadd, 1) := by decide +kernel
theorem dL_law_172 : decode cL_law 172 = .ok (.iaload, 1) := by decide +kernel
theorem dL_law_173 : decode cL_law 173 = .ok (.aload_n 0, 1) := by decide +kernel
theorem dL_law_174 : decode cL_law 174 = .ok (.iload_n 3, 1) := by decide +kernel
theorem dL_law_175 : decode cL_law 175 = .ok (.iconst 2, 1) := by decide +kernel
theorem dL_law_176 : decode cL_law 176 = .ok (.iadd, 1) := by decide +kernel
theorem dL_law_177 : decode cL_law 177 = .ok (.iaload, 1) := by decide +kernel
theorem dL_law_178 : decode cL_law 178 = .ok (.invokevirtual 18, 3) := by decide +kernel
theorem dL_law_181 : decode cL_law 181 = .ok (.aload_n 2, 1) := by decide +kernel
theorem dL_law_182 : decode cL_law 182 = .ok (.aload_n 0, 1) := by decide +kernel
theorem dL_law_183 : decode cL_law 183 = .ok (.iload_n 3, 1) := by decide +kernel
theorem dL_law_184 : decode cL_law 184 = .ok (.iconst 1, 1) := by decide +kernel
theorem dL_law_185 : decode cL_law 185 = .ok (.iadd, 1) := by decide +kernel
theorem dL_law_186 : decode cL_law 186 = .ok (.iaload, 1) := by decide +kernel
theorem dL_law_187 : decode cL_law 187 = .ok (.aload_n 0, 1) := by decide +kernel
theorem dL_law_188 : decode cL_law 188 = .ok (.iload_n 3, 1) := by decide +kernel
theorem dL_law_189 : decode cL_law 189 = .ok (.iconst 2, 1) := by decide +kernel
theorem dL_law_190 : decode cL_law 190 = .ok (.iadd, 1) := by decide +kernel
theorem dL_law_191 : decode cL_law 191 = .ok (.iaload, 1) := by decide +kernel
theorem dL_law_192 : decode cL_law 192 = .ok (.invokevirtual 22, 3) := by decide +kernel
theorem dL_law_195 : decode cL_law 195 = .ok (.if_icmp .eq 756, 3) := by decide +kernel
theorem dL_law_198 : decode cL_law 198 = .ok (.iconst 0, 1) := by decide +kernel
theorem dL_law_199 : decode cL_law 199 = .ok (.ireturn, 1) := by decide +kernel
theorem dL_law_200 : decode cL_law 200 = .ok (.aload_n 1, 1) := by decide +kernel
theorem dL_law_201 : decode cL_law 201 = .ok (.aload_n 0, 1) := by decide +kernel
theorem dL_law_202 : decode cL_law 202 = .ok (.iload_n 3, 1) := by decide +kernel
theorem dL_law_203 : decode cL_law 203 = .ok (.iconst 1, 1) := by decide +kernel
theorem dL_law_204 : decode cL_law 204 = .ok (.iadd, 1) := by decide +kernel
theorem dL_law_205 : decode cL_law 205 = .ok (.iaload, 1) := by decide +kernel
theorem dL_law_206 : decode cL_law 206 = .ok (.aload_n 0, 1) := by decide +kernel
theorem dL_law_207 : decode cL_law 207 = .ok (.iload_n 3, 1) := by decide +kernel
theorem dL_law_208 : decode cL_law 208 = .ok (.iconst 2, 1) := by decide +kernel
theorem dL_law_209 : decode cL_law 209 = .ok (.iadd, 1) := by decide +kernel
theorem dL_law_210 : decode cL_law 210 = .ok (.iaload, 1) := by decide +kernel
theorem dL_law_211 : decode cL_law 211 = .ok (.invokevirtual 23, 3) := by decide +kernel
theorem dL_law_214 : decode cL_law 214 = .ok (.aload_n 2, 1) := by decide +kernel
theorem dL_law_215 : decode cL_law 215 = .ok (.aload_n 0, 1) := by decide +kernel
theorem dL_law_216 : decode cL_law 216 = .ok (.iload_n 3, 1) := by decide +kernel
theorem dL_law_217 : decode cL_law 217 = .ok (.iconst 1, 1) := by decide +kernel
theorem dL_law_218 : decode cL_law 218 = .ok (.iadd, 1) := by decide +kernel
theorem dL_law_219 : decode cL_law 219 = .ok (.iaload, 1) := by decide +kernel
theorem dL_law_220 : decode cL_law 220 = .ok (.aload_n 0, 1) := by decide +kernel
theorem dL_law_221 : decode cL_law 221 = .ok (.iload_n 3, 1) := by decide +kernel
theorem dL_law_222 : decode cL_law 222 = .ok (.iconst 2, 1) := by decide +kernel
theorem dL_law_223 : decode cL_law 223 = .ok (.iadd, 1) := by decide +kernel
theorem dL_law_224 : decode cL_law 224 = .ok (.iaload, 1) := by decide +kernel
theorem dL_law_225 : decode cL_law 225 = .ok (.invokevirtual 26, 3) := by decide +kernel
theorem dL_law_228 : decode cL_law 228 = .ok (.if_icmp .eq 723, 3) := by decide +kernel
theorem dL_law_231 : decode cL_law 231 = .ok (.iconst 0, 1) := by decide +kernel
theorem dL_law_232 : decode cL_law 232 = .ok (.ireturn, 1) := by decide +kernel
theorem dL_law_233 : decode cL_law 233 = .ok (.aload_n 1, 1) := by decide +kernel
theorem dL_law_234 : decode cL_law 234 = .ok (.aload_n 0, 1) := by decide +kernel
theorem dL_law_235 : decode cL_law 235 = .ok (.iload_n 3, 1) := by decide +kernel
theorem dL_law_236 : decode cL_law 236 = .ok (.iconst 1, 1) := by decide +kernel
theorem dL_law_237 : decode cL_law 237 = .ok (.iadd, 1) := by decide +kernel
theorem dL_law_238 : decode cL_law 238 = .ok (.iaload, 1) := by decide +kernel
theorem dL_law_239 : decode cL_law 239 = .ok (.aload_n 0, 1) := by decide +kernel
theorem dL_law_240 : decode cL_law 240 = .ok (.iload_n 3, 1) := by decide +kernel
theorem dL_law_241 : decode cL_law 241 = .ok (.iconst 2, 1) := by decide +kernel
theorem dL_law_242 : decode cL_law 242 = .ok (.iadd, 1) := by decide +kernel
theorem dL_law_243 : decode cL_law 243 = .ok (.iaload, 1) := by decide +kernel
theorem dL_law_244 : decode cL_law 244 = .ok (.aload_n 0, 1) := by decide +kernel
theorem dL_law_245 : decode cL_law 245 = .ok (.iload_n 3, 1) := by decide +kernel
theorem dL_law_246 : decode cL_law 246 = .ok (.iconst 3, 1) := by decide +kernel
theorem dL_law_247 : decode cL_law 247 = .ok (.iadd, 1) := by decide +kernel
theorem dL_law_248 : decode cL_law 248 = .ok (.iaload, 1) := by decide +kernel
theorem dL_law_249 : decode cL_law 249 = .ok (.invokevirtual 27, 3) := by decide +kernel
theorem dL_law_252 : decode cL_law 252 = .ok (.aload_n 2, 1) := by decide +kernel
theorem dL_law_253 : decode cL_law 253 = .ok (.aload_n 0, 1) := by decide +kernel
theorem dL_law_254 : decode cL_law 254 = .ok (.iload_n 3, 1) := by decide +kernel
theorem dL_law_255 : decode cL_law 255 = .ok (.iconst 1, 1) := by decide +kernel
theorem dL_law_256 : decode cL_law 256 = .ok (.iadd, 1) := by decide +kernel
theorem dL_law_257 : decode cL_law 257 = .ok (.iaload, 1) := by decide +kernel
theorem dL_law_258 : decode cL_law 258 = .ok (.aload_n 0, 1) := by decide +kernel
theorem dL_law_259 : decode cL_law 259 = .ok (.iload_n 3, 1) := by decide +kernel
theorem dL_law_260 : decode cL_law 260 = .ok (.iconst 2, 1) := by decide +kernel
theorem dL_law_261 : decode cL_law 261 = .ok (.iadd, 1) := by decide +kernel
theorem dL_law_262 : decode cL_law 262 = .ok (.iaload, 1) := by decide +kernel
theorem dL_law_263 : decode cL_law 263 = .ok (.aload_n 0, 1) := by decide +kernel
theorem dL_law_264 : decode cL_law 264 = .ok (.iload_n 3, 1) := by decide +kernel
theorem dL_law_265 : decode cL_law 265 = .ok (.iconst 3, 1) := by decide +kernel
theorem dL_law_266 : decode cL_law 266 = .ok (.iadd, 1) := by decide +kernel
theorem dL_law_267 : decode cL_law 267 = .ok (.iaload, 1) := by decide +kernel
theorem dL_law_268 : decode cL_law 268 = .ok (.invokevirtual 30, 3) := by decide +kernel
theorem dL_law_271 : decode cL_law 271 = .ok (.if_icmp .eq 680, 3) := by decide +kernel
theorem dL_law_274 : decode cL_law 274 = .ok (.iconst 0, 1) := by decide +kernel
theorem dL_law_275 : decode cL_law 275 = .ok (.ireturn, 1) := by decide +kernel
theorem dL_law_276 : decode cL_law 276 = .ok (.aload_n 1, 1) := by decide +kernel
theorem dL_law_277 : decode cL_law 277 = .ok (.aload_n 0, 1) := by decide +kernel
theorem dL_law_278 : decode cL_law 278 = .ok (.iload_n 3, 1) := by decide +kernel
theorem dL_law_279 : decode cL_law 279 = .ok (.iconst 1, 1) := by decide +kernel
theorem dL_law_280 : decode cL_law 280 = .ok (.iadd, 1) := by decide +kernel
theorem dL_law_281 : decode cL_law 281 = .ok (.iaload, 1) := by decide +kernel
theorem dL_law_282 : decode cL_law 282 = .ok (.aload_n 0, 1) := by decide +kernel
theorem dL_law_283 : decode cL_law 283 = .ok (.iload_n 3, 1) := by decide +kernel
theorem dL_law_284 : decode cL_law 284 = .ok (.iconst 2, 1) := by decide +kernel
theorem dL_law_285 : decode cL_law 285 = .ok (.iadd, 1) := by decide +kernel
theorem dL_law_286 : decode cL_law 286 = .ok (.iaload, 1) := by decide +kernel
theorem dL_law_287 : decode cL_law 287 = .ok (.aload_n 0, 1) := by decide +kernel
theorem dL_law_288 : decode cL_law 288 = .ok (.iload_n 3, 1) := by decide +kernel
theorem dL_law_289 : decode cL_law 289 = .ok (.iconst 3, 1) := by decide +kernel
theorem dL_law_290 : decode cL_law 290 = .ok (.iadd, 1) := by decide +kernel
theorem dL_law_291 : decode cL_law 291 = .ok (.iaload, 1) := by decide +kernel
theorem dL_law_292 : decode cL_law 292 = .ok (.invokevirtual 31, 3) := by decide +kernel
theorem dL_law_295 : decode cL_law 295 = .ok (.aload_n 2, 1) := by decide +kernel
theorem dL_law_296 : decode cL_law 296 = .ok (.aload_n 0, 1) := by decide +kernel
theorem dL_law_297 : decode cL_law 297 = .ok (.iload_n 3, 1) := by decide +kernel
theorem dL_law_298 : decode cL_law 298 = .ok (.iconst 1, 1) := by decide +kernel
theorem dL_law_299 : decode cL_law 299 = .ok (.iadd, 1) := by decide +kernel
theorem dL_law_300 : decode cL_law 300 = .ok (.iaload, 1) := by decide +kernel
theorem dL_law_301 : decode cL_law 301 = .ok (.aload_n 0, 1) := by decide +kernel
theorem dL_law_302 : decode cL_law 302 = .ok (.iload_n 3, 1) := by decide +kernel
theorem dL_law_303 : decode cL_law 303 = .ok (.iconst 2, 1) := by decide +kernel
theorem dL_law_304 : decode cL_law 304 = .ok (.iadd, 1) := by decide +kernel
theorem dL_law_305 : decode cL_law 305 = .ok (.iaload, 1) := by decide +kernel
theorem dL_law_306 : decode cL_law 306 = .ok (.aload_n 0, 1) := by decide +kernel
theorem dL_law_307 : decode cL_law 307 = .ok (.iload_n 3, 1) := by decide +kernel
theorem dL_law_308 : decode cL_law 308 = .ok (.iconst 3, 1) := by decide +kernel
theorem dL_law_309 : decode cL_law 309 = .ok (.iadd, 1) := by decide +kernel
theorem dL_law_310 : decode cL_law 310 = .ok (.iaload, 1) := by decide +kernel
theorem dL_law_311 : decode cL_law 311 = .ok (.invokevirtual 34, 3) := by decide +kernel
theorem dL_law_314 : decode cL_law 314 = .ok (.if_icmp .eq 637, 3) := by decide +kernel
theorem dL_law_317 : decode cL_law 317 = .ok (.iconst 0, 1) := by decide +kernel
theorem dL_law_318 : decode cL_law 318 = .ok (.ireturn, 1) := by decide +kernel
theorem dL_law_319 : decode cL_law 319 = .ok (.aload_n 1, 1) := by decide +kernel
theorem dL_law_320 : decode cL_law 320 = .ok (.aload_n 0, 1) := by decide +kernel
theorem dL_law_321 : decode cL_law 321 = .ok (.iload_n 3, 1) := by decide +kernel
theorem dL_law_322 : decode cL_law 322 = .ok (.iconst 1, 1) := by decide +kernel
theorem dL_law_323 : decode cL_law 323 = .ok (.iadd, 1) := by decide +kernel
theorem dL_law_324 : decode cL_law 324 = .ok (.iaload, 1) := by decide +kernel
theorem dL_law_325 : decode cL_law 325 = .ok (.aload_n 0, 1) := by decide +kernel
theorem dL_law_326 : decode cL_law 326 = .ok (.iload_n 3, 1) := by decide +kernel
theorem dL_law_327 : decode cL_law 327 = .ok (.iconst 2, 1) := by decide +kernel
theorem dL_law_328 : decode cL_law 328 = .ok (.iadd, 1) := by decide +kernel
theorem dL_law_329 : decode cL_law 329 = .ok (.iaload, 1) := by decide +kernel
theorem dL_law_330 : decode cL_law 330 = .ok (.invokevirtual 35, 3) := by decide +kernel
theorem dL_law_333 : decode cL_law 333 = .ok (.aload_n 2, 1) := by decide +kernel
theorem dL_law_334 : decode cL_law 334 = .ok (.aload_n 0, 1) := by decide +kernel
theorem dL_law_335 : decode cL_law 335 = .ok (.iload_n 3, 1) := by decide +kernel
theorem dL_law_336 : decode cL_law 336 = .ok (.iconst 1, 1) := by decide +kernel
theorem dL_law_337 : decode cL_law 337 = .ok (.iadd, 1) := by decide +kernel
theorem dL_law_338 : decode cL_law 338 = .ok (.iaload, 1) := by decide +kernel
theorem dL_law_339 : decode cL_law 339 = .ok (.aload_n 0, 1) := by decide +kernel
theorem dL_law_340 : decode cL_law 340 = .ok (.iload_n 3, 1) := by decide +kernel
theorem dL_law_341 : decode cL_law 341 = .ok (.iconst 2, 1) := by decide +kernel
theorem dL_law_342 : decode cL_law 342 = .ok (.iadd, 1) := by decide +kernel
theorem dL_law_343 : decode cL_law 343 = .ok (.iaload, 1) := by decide +kernel
theorem dL_law_344 : decode cL_law 344 = .ok (.invokevirtual 38, 3) := by decide +kernel
theorem dL_law_347 : decode cL_law 347 = .ok (.if_icmp .eq 604, 3) := by decide +kernel
theorem dL_law_350 : decode cL_law 350 = .ok (.iconst 0, 1) := by decide +kernel
theorem dL_law_351 : decode cL_law 351 = .ok (.ireturn, 1) := by decide +kernel
theorem dL_law_352 : decode cL_law 352 = .ok (.aload_n 1, 1) := by decide +kernel
theorem dL_law_353 : decode cL_law 353 = .ok (.aload_n 0, 1) := by decide +kernel
theorem dL_law_354 : decode cL_law 354 = .ok (.iload_n 3, 1) := by decide +kernel
theorem dL_law_355 : decode cL_law 355 = .ok (.iconst 1, 1) := by decide +kernel
theorem dL_law_356 : decode cL_law 356 = .ok (.iadd, 1) := by decide +kernel
theorem dL_law_357 : decode cL_law 357 = .ok (.iaload, 1) := by decide +kernel
theorem dL_law_358 : decode cL_law 358 = .ok (.aload_n 0, 1) := by decide +kernel
theorem dL_law_359 : decode cL_law 359 = .ok (.iload_n 3, 1) := by decide +kernel
theorem dL_law_360 : decode cL_law 360 = .ok (.iconst 2, 1) := by decide +kernel
theorem dL_law_361 : decode cL_law 361 = .ok (.iadd, 1) := by decide +kernel
theorem dL_law_362 : decode cL_law 362 = .ok (.iaload, 1) := by decide +kernel
theorem dL_law_363 : decode cL_law 363 = .ok (.aload_n 0, 1) := by decide +kernel
theorem dL_law_364 : decode cL_law 364 = .ok (.iload_n 3, 1) := by decide +kernel
theorem dL_law_365 : decode cL_law 365 = .ok (.iconst 3, 1) := by decide +kernel
theorem dL_law_366 : decode cL_law 366 = .ok (.iadd, 1) := by decide +kernel
theorem dL_law_367 : decode cL_law 367 = .ok (.iaload, 1) := by decide +kernel
theorem dL_law_368 : decode cL_law 368 = .ok (.aload_n 0, 1) := by decide +kernel
theorem dL_law_369 : decode cL_law 369 = .ok (.iload_n 3, 1) := by decide +kernel
theorem dL_law_370 : decode cL_law 370 = .ok (.iconst 4, 1) := by decide +kernel
theorem dL_law_371 : decode cL_law 371 = .ok (.iadd, 1) := by decide +kernel
theorem dL_law_372 : decode cL_law 372 = .ok (.iaload, 1) := by decide +kernel
theorem dL_law_373 : decode cL_law 373 = .ok (.aload_n 0, 1) := by decide +kernel
theorem dL_law_374 : decode cL_law 374 = .ok (.iload_n 3, 1) := by decide +kernel
theorem dL_law_375 : decode cL_law 375 = .ok (.iconst 5, 1) := by decide +kernel
theorem dL_law_376 : decode cL_law 376 = .ok (.iadd, 1) := by decide +kernel
theorem dL_law_377 : decode cL_law 377 = .ok (.iaload, 1) := by decide +kernel
theorem dL_law_378 : decode cL_law 378 = .ok (.aload_n 0, 1) := by decide +kernel
theorem dL_law_379 : decode cL_law 379 = .ok (.iload_n 3, 1) := by decide +kernel
theorem dL_law_380 : decode cL_law 380 = .ok (.bipush 6, 2) := by decide +kernel
theorem dL_law_382 : decode cL_law 382 = .ok (.iadd, 1) := by decide +kernel
theorem dL_law_383 : decode cL_law 383 = .ok (.iaload, 1) := by decide +kernel
theorem dL_law_384 : decode cL_law 384 = .ok (.invokevirtual 39, 3) := by decide +kernel
theorem dL_law_387 : decode cL_law 387 = .ok (.aload_n 2, 1) := by decide +kernel
theorem dL_law_388 : decode cL_law 388 = .ok (.aload_n 0, 1) := by decide +kernel
theorem dL_law_389 : decode cL_law 389 = .ok (.iload_n 3, 1) := by decide +kernel
theorem dL_law_390 : decode cL_law 390 = .ok (.iconst 1, 1) := by decide +kernel
end
section
theorem dL_law_391 : decode cL_law 391 = .ok (.iadd, 1) := by decide +kernel
theorem dL_law_392 : decode cL_law 392 = .ok (.iaload, 1) := by decide +kernel
theorem dL_law_393 : decode cL_law 393 = .ok (.aload_n 0, 1) := by decide +kernel
theorem dL_law_394 : decode cL_law 394 = .ok (.iload_n 3, 1) := by decide +kernel
theorem dL_law_395 : decode cL_law 395 = .ok (.iconst 2, 1) := by decide +kernel
theorem dL_law_396 : decode cL_law 396 = .ok (.iadd, 1) := by decide +kernel
theorem dL_law_397 : decode cL_law 397 = .ok (.iaload, 1) := by decide +kernel
theorem dL_law_398 : decode cL_law 398 = .ok (.aload_n 0, 1) := by decide +kernel
theorem dL_law_399 : decode cL_law 399 = .ok (.iload_n 3, 1) := by decide +kernel
theorem dL_law_400 : decode cL_law 400 = .ok (.iconst 3, 1) := by decide +kernel
theorem dL_law_401 : decode cL_law 401 = .ok (.iadd, 1) := by decide +kernel
theorem dL_law_402 : decode cL_law 402 = .ok (.iaload, 1) := by decide +kernel
theorem dL_law_403 : decode cL_law 403 = .ok (.aload_n 0, 1) := by decide +kernel
theorem dL_law_404 : decode cL_law 404 = .ok (.iload_n 3, 1) := by decide +kernel
theorem dL_law_405 : decode cL_law 405 = .ok (.iconst 4, 1) := by decide +kernel
theorem dL_law_406 : decode cL_law 406 = .ok (.iadd, 1) := by decide +kernel
theorem dL_law_407 : decode cL_law 407 = .ok (.iaload, 1) := by decide +kernel
theorem dL_law_408 : decode cL_law 408 = .ok (.aload_n 0, 1) := by decide +kernel
theorem dL_law_409 : decode cL_law 409 = .ok (.iload_n 3, 1) := by decide +kernel
theorem dL_law_410 : decode cL_law 410 = .ok (.iconst 5, 1) := by decide +kernel
theorem dL_law_411 : decode cL_law 411 = .ok (.iadd, 1) := by decide +kernel
theorem dL_law_412 : decode cL_law 412 = .ok (.iaload, 1) := by decide +kernel
theorem dL_law_413 : decode cL_law 413 = .ok (.aload_n 0, 1) := by decide +kernel
theorem dL_law_414 : decode cL_law 414 = .ok (.iload_n 3, 1) := by decide +kernel
theorem dL_law_415 : decode cL_law 415 = .ok (.bipush 6, 2) := by decide +kernel
theorem dL_law_417 : decode cL_law 417 = .ok (.iadd, 1) := by decide +kernel
theorem dL_law_418 : decode cL_law 418 = .ok (.iaload, 1) := by decide +kernel
theorem dL_law_419 : decode cL_law 419 = .ok (.invokevirtual 43, 3) := by decide +kernel
theorem dL_law_422 : decode cL_law 422 = .ok (.if_icmp .eq 529, 3) := by decide +kernel
theorem dL_law_425 : decode cL_law 425 = .ok (.iconst 0, 1) := by decide +kernel
theorem dL_law_426 : decode cL_law 426 = .ok (.ireturn, 1) := by decide +kernel
theorem dL_law_427 : decode cL_law 427 = .ok (.aload_n 1, 1) := by decide +kernel
theorem dL_law_428 : decode cL_law 428 = .ok (.aload_n 0, 1) := by decide +kernel
theorem dL_law_429 : decode cL_law 429 = .ok (.iload_n 3, 1) := by decide +kernel
theorem dL_law_430 : decode cL_law 430 = .ok (.iconst 1, 1) := by decide +kernel
theorem dL_law_431 : decode cL_law 431 = .ok (.iadd, 1) := by decide +kernel
theorem dL_law_432 : decode cL_law 432 = .ok (.iaload, 1) := by decide +kernel
theorem dL_law_433 : decode cL_law 433 = .ok (.aload_n 0, 1) := by decide +kernel
theorem dL_law_434 : decode cL_law 434 = .ok (.iload_n 3, 1) := by decide +kernel
theorem dL_law_435 : decode cL_law 435 = .ok (.iconst 2, 1) := by decide +kernel
theorem dL_law_436 : decode cL_law 436 = .ok (.iadd, 1) := by decide +kernel
theorem dL_law_437 : decode cL_law 437 = .ok (.iaload, 1) := by decide +kernel
theorem dL_law_438 : decode cL_law 438 = .ok (.invokevirtual 44, 3) := by decide +kernel
theorem dL_law_441 : decode cL_law 441 = .ok (.aload_n 2, 1) := by decide +kernel
theorem dL_law_442 : decode cL_law 442 = .ok (.aload_n 0, 1) := by decide +kernel
theorem dL_law_443 : decode cL_law 443 = .ok (.iload_n 3, 1) := by decide +kernel
theorem dL_law_444 : decode cL_law 444 = .ok (.iconst 1, 1) := by decide +kernel
theorem dL_law_445 : decode cL_law 445 = .ok (.iadd, 1) := by decide +kernel
theorem dL_law_446 : decode cL_law 446 = .ok (.iaload, 1) := by decide +kernel
theorem dL_law_447 : decode cL_law 447 = .ok (.aload_n 0, 1) := by decide +kernel
theorem dL_law_448 : decode cL_law 448 = .ok (.iload_n 3, 1) := by decide +kernel
theorem dL_law_449 : decode cL_law 449 = .ok (.iconst 2, 1) := by decide +kernel
theorem dL_law_450 : decode cL_law 450 = .ok (.iadd, 1) := by decide +kernel
theorem dL_law_451 : decode cL_law 451 = .ok (.iaload, 1) := by decide +kernel
theorem dL_law_452 : decode cL_law 452 = .ok (.invokevirtual 47, 3) := by decide +kernel
theorem dL_law_455 : decode cL_law 455 = .ok (.if_icmp .eq 496, 3) := by decide +kernel
theorem dL_law_458 : decode cL_law 458 = .ok (.iconst 0, 1) := by decide +kernel
theorem dL_law_459 : decode cL_law 459 = .ok (.ireturn, 1) := by decide +kernel
theorem dL_law_460 : decode cL_law 460 = .ok (.aload_n 1, 1) := by decide +kernel
theorem dL_law_461 : decode cL_law 461 = .ok (.aload_n 0, 1) := by decide +kernel
theorem dL_law_462 : decode cL_law 462 = .ok (.iload_n 3, 1) := by decide +kernel
theorem dL_law_463 : decode cL_law 463 = .ok (.iconst 1, 1) := by decide +kernel
theorem dL_law_464 : decode cL_law 464 = .ok (.iadd, 1) := by decide +kernel
theorem dL_law_465 : decode cL_law 465 = .ok (.iaload, 1) := by decide +kernel
theorem dL_law_466 : decode cL_law 466 = .ok (.aload_n 0, 1) := by decide +kernel
theorem dL_law_467 : decode cL_law 467 = .ok (.iload_n 3, 1) := by decide +kernel
theorem dL_law_468 : decode cL_law 468 = .ok (.iconst 2, 1) := by decide +kernel
theorem dL_law_469 : decode cL_law 469 = .ok (.iadd, 1) := by decide +kernel
theorem dL_law_470 : decode cL_law 470 = .ok (.iaload, 1) := by decide +kernel
theorem dL_law_471 : decode cL_law 471 = .ok (.invokevirtual 48, 3) := by decide +kernel
theorem dL_law_474 : decode cL_law 474 = .ok (.aload_n 2, 1) := by decide +kernel
theorem dL_law_475 : decode cL_law 475 = .ok (.aload_n 0, 1) := by decide +kernel
theorem dL_law_476 : decode cL_law 476 = .ok (.iload_n 3, 1) := by decide +kernel
theorem dL_law_477 : decode cL_law 477 = .ok (.iconst 1, 1) := by decide +kernel
theorem dL_law_478 : decode cL_law 478 = .ok (.iadd, 1) := by decide +kernel
theorem dL_law_479 : decode cL_law 479 = .ok (.iaload, 1) := by decide +kernel
theorem dL_law_480 : decode cL_law 480 = .ok (.aload_n 0, 1) := by decide +kernel
theorem dL_law_481 : decode cL_law 481 = .ok (.iload_n 3, 1) := by decide +kernel
theorem dL_law_482 : decode cL_law 482 = .ok (.iconst 2, 1) := by decide +kernel
theorem dL_law_483 : decode cL_law 483 = .ok (.iadd, 1) := by decide +kernel
theorem dL_law_484 : decode cL_law 484 = .ok (.iaload, 1) := by decide +kernel
theorem dL_law_485 : decode cL_law 485 = .ok (.invokevirtual 51, 3) := by decide +kernel
theorem dL_law_488 : decode cL_law 488 = .ok (.if_icmp .eq 463, 3) := by decide +kernel
theorem dL_law_491 : decode cL_law 491 = .ok (.iconst 0, 1) := by decide +kernel
theorem dL_law_492 : decode cL_law 492 = .ok (.ireturn, 1) := by decide +kernel
theorem dL_law_493 : decode cL_law 493 = .ok (.aload_n 1, 1) := by decide +kernel
theorem dL_law_494 : decode cL_law 494 = .ok (.aload_n 0, 1) := by decide +kernel
theorem dL_law_495 : decode cL_law 495 = .ok (.iload_n 3, 1) := by decide +kernel
theorem dL_law_496 : decode cL_law 496 = .ok (.iconst 1, 1) := by decide +kernel
theorem dL_law_497 : decode cL_law 497 = .ok (.iadd, 1) := by decide +kernel
theorem dL_law_498 : decode cL_law 498 = .ok (.iaload, 1) := by decide +kernel
theorem dL_law_499 : decode cL_law 499 = .ok (.aload_n 0, 1) := by decide +kernel
theorem dL_law_500 : decode cL_law 500 = .ok (.iload_n 3, 1) := by decide +kernel
theorem dL_law_501 : decode cL_law 501 = .ok (.iconst 2, 1) := by decide +kernel
theorem dL_law_502 : decode cL_law 502 = .ok (.iadd, 1) := by decide +kernel
theorem dL_law_503 : decode cL_law 503 = .ok (.iaload, 1) := by decide +kernel
theorem dL_law_504 : decode cL_law 504 = .ok (.invokevirtual 52, 3) := by decide +kernel
theorem dL_law_507 : decode cL_law 507 = .ok (.aload_n 2, 1) := by decide +kernel
theorem dL_law_508 : decode cL_law 508 = .ok (.aload_n 0, 1) := by decide +kernel
theorem dL_law_509 : decode cL_law 509 = .ok (.iload_n 3, 1) := by decide +kernel
theorem dL_law_510 : decode cL_law 510 = .ok (.iconst 1, 1) := by decide +kernel
theorem dL_law_511 : decode cL_law 511 = .ok (.iadd, 1) := by decide +kernel
theorem dL_law_512 : decode cL_law 512 = .ok (.iaload, 1) := by decide +kernel
theorem dL_law_513 : decode cL_law 513 = .ok (.aload_n 0, 1) := by decide +kernel
theorem dL_law_514 : decode cL_law 514 = .ok (.iload_n 3, 1) := by decide +kernel
theorem dL_law_515 : decode cL_law 515 = .ok (.iconst 2, 1) := by decide +kernel
theorem dL_law_516 : decode cL_law 516 = .ok (.iadd, 1) := by decide +kernel
theorem dL_law_517 : decode cL_law 517 = .ok (.iaload, 1) := by decide +kernel
theorem dL_law_518 : decode cL_law 518 = .ok (.invokevirtual 55, 3) := by decide +kernel
theorem dL_law_521 : decode cL_law 521 = .ok (.if_icmp .eq 430, 3) := by decide +kernel
theorem dL_law_524 : decode cL_law 524 = .ok (.iconst 0, 1) := by decide +kernel
theorem dL_law_525 : decode cL_law 525 = .ok (.ireturn, 1) := by decide +kernel
theorem dL_law_526 : decode cL_law 526 = .ok (.aload_n 1, 1) := by decide +kernel
theorem dL_law_527 : decode cL_law 527 = .ok (.aload_n 0, 1) := by decide +kernel
theorem dL_law_528 : decode cL_law 528 = .ok (.iload_n 3, 1) := by decide +kernel
theorem dL_law_529 : decode cL_law 529 = .ok (.iconst 1, 1) := by decide +kernel
theorem dL_law_530 : decode cL_law 530 = .ok (.iadd, 1) := by decide +kernel
theorem dL_law_531 : decode cL_law 531 = .ok (.iaload, 1) := by decide +kernel
theorem dL_law_532 : decode cL_law 532 = .ok (.aload_n 0, 1) := by decide +kernel
theorem dL_law_533 : decode cL_law 533 = .ok (.iload_n 3, 1) := by decide +kernel
theorem dL_law_534 : decode cL_law 534 = .ok (.iconst 2, 1) := by decide +kernel
theorem dL_law_535 : decode cL_law 535 = .ok (.iadd, 1) := by decide +kernel
theorem dL_law_536 : decode cL_law 536 = .ok (.iaload, 1) := by decide +kernel
theorem dL_law_537 : decode cL_law 537 = .ok (.invokevirtual 56, 3) := by decide +kernel
theorem dL_law_540 : decode cL_law 540 = .ok (.aload_n 2, 1) := by decide +kernel
theorem dL_law_541 : decode cL_law 541 = .ok (.aload_n 0, 1) := by decide +kernel
theorem dL_law_542 : decode cL_law 542 = .ok (.iload_n 3, 1) := by decide +kernel
theorem dL_law_543 : decode cL_law 543 = .ok (.iconst 1, 1) := by decide +kernel
theorem dL_law_544 : decode cL_law 544 = .ok (.iadd, 1) := by decide +kernel
theorem dL_law_545 : decode cL_law 545 = .ok (.iaload, 1) := by decide +kernel
theorem dL_law_546 : decode cL_law 546 = .ok (.aload_n 0, 1) := by decide +kernel
theorem dL_law_547 : decode cL_law 547 = .ok (.iload_n 3, 1) := by decide +kernel
theorem dL_law_548 : decode cL_law 548 = .ok (.iconst 2, 1) := by decide +kernel
theorem dL_law_549 : decode cL_law 549 = .ok (.iadd, 1) := by decide +kernel
theorem dL_law_550 : decode cL_law 550 = .ok (.iaload, 1) := by decide +kernel
theorem dL_law_551 : decode cL_law 551 = .ok (.invokevirtual 60, 3) := by decide +kernel
theorem dL_law_554 : decode cL_law 554 = .ok (.lcmp, 1) := by decide +kernel
theorem dL_law_555 : decode cL_law 555 = .ok (.ifCond .eq 396, 3) := by decide +kernel
theorem dL_law_558 : decode cL_law 558 = .ok (.iconst 0, 1) := by decide +kernel
theorem dL_law_559 : decode cL_law 559 = .ok (.ireturn, 1) := by decide +kernel
theorem dL_law_560 : decode cL_law 560 = .ok (.aload_n 1, 1) := by decide +kernel
theorem dL_law_561 : decode cL_law 561 = .ok (.aload_n 0, 1) := by decide +kernel
theorem dL_law_562 : decode cL_law 562 = .ok (.iload_n 3, 1) := by decide +kernel
theorem dL_law_563 : decode cL_law 563 = .ok (.iconst 1, 1) := by decide +kernel
theorem dL_law_564 : decode cL_law 564 = .ok (.iadd, 1) := by decide +kernel
theorem dL_law_565 : decode cL_law 565 = .ok (.iaload, 1) := by decide +kernel
theorem dL_law_566 : decode cL_law 566 = .ok (.aload_n 0, 1) := by decide +kernel
theorem dL_law_567 : decode cL_law 567 = .ok (.iload_n 3, 1) := by decide +kernel
theorem dL_law_568 : decode cL_law 568 = .ok (.iconst 2, 1) := by decide +kernel
theorem dL_law_569 : decode cL_law 569 = .ok (.iadd, 1) := by decide +kernel
theorem dL_law_570 : decode cL_law 570 = .ok (.iaload, 1) := by decide +kernel
theorem dL_law_571 : decode cL_law 571 = .ok (.aload_n 0, 1) := by decide +kernel
theorem dL_law_572 : decode cL_law 572 = .ok (.iload_n 3, 1) := by decide +kernel
theorem dL_law_573 : decode cL_law 573 = .ok (.iconst 3, 1) := by decide +kernel
theorem dL_law_574 : decode cL_law 574 = .ok (.iadd, 1) := by decide +kernel
theorem dL_law_575 : decode cL_law 575 = .ok (.iaload, 1) := by decide +kernel
theorem dL_law_576 : decode cL_law 576 = .ok (.invokevirtual 61, 3) := by decide +kernel
theorem dL_law_579 : decode cL_law 579 = .ok (.aload_n 2, 1) := by decide +kernel
theorem dL_law_580 : decode cL_law 580 = .ok (.aload_n 0, 1) := by decide +kernel
theorem dL_law_581 : decode cL_law 581 = .ok (.iload_n 3, 1) := by decide +kernel
theorem dL_law_582 : decode cL_law 582 = .ok (.iconst 1, 1) := by decide +kernel
theorem dL_law_583 : decode cL_law 583 = .ok (.iadd, 1) := by decide +kernel
theorem dL_law_584 : decode cL_law 584 = .ok (.iaload, 1) := by decide +kernel
theorem dL_law_585 : decode cL_law 585 = .ok (.aload_n 0, 1) := by decide +kernel
theorem dL_law_586 : decode cL_law 586 = .ok (.iload_n 3, 1) := by decide +kernel
theorem dL_law_587 : decode cL_law 587 = .ok (.iconst 2, 1) := by decide +kernel
theorem dL_law_588 : decode cL_law 588 = .ok (.iadd, 1) := by decide +kernel
theorem dL_law_589 : decode cL_law 589 = .ok (.iaload, 1) := by decide +kernel
theorem dL_law_590 : decode cL_law 590 = .ok (.aload_n 0, 1) := by decide +kernel
theorem dL_law_591 : decode cL_law 591 = .ok (.iload_n 3, 1) := by decide +kernel
theorem dL_law_592 : decode cL_law 592 = .ok (.iconst 3, 1) := by decide +kernel
theorem dL_law_593 : decode cL_law 593 = .ok (.iadd, 1) := by decide +kernel
theorem dL_law_594 : decode cL_law 594 = .ok (.iaload, 1) := by decide +kernel
theorem dL_law_595 : decode cL_law 595 = .ok (.invokevirtual 65, 3) := by decide +kernel
theorem dL_law_598 : decode cL_law 598 = .ok (.lcmp, 1) := by decide +kernel
theorem dL_law_599 : decode cL_law 599 = .ok (.ifCond .eq 352, 3) := by decide +kernel
theorem dL_law_602 : decode cL_law 602 = .ok (.iconst 0, 1) := by decide +kernel
theorem dL_law_603 : decode cL_law 603 = .ok (.ireturn, 1) := by decide +kernel
theorem dL_law_604 : decode cL_law 604 = .ok (.aload_n 1, 1) := by decide +kernel
theorem dL_law_605 : decode cL_law 605 = .ok (.aload_n 0, 1) := by decide +kernel
theorem dL_law_606 : decode cL_law 606 = .ok (.iload_n 3, 1) := by decide +kernel
theorem dL_law_607 : decode cL_law 607 = .ok (.iconst 1, 1) := by decide +kernel
theorem dL_law_608 : decode cL_law 608 = .ok (.iadd, 1) := by decide +kernel
theorem dL_law_609 : decode cL_law 609 = .ok (.iaload, 1) := by decide +kernel
theorem dL_law_610 : decode cL_law 610 = .ok (.aload_n 0, 1) := by decide +kernel
theorem dL_law_611 : decode cL_law 611 = .ok (.iload_n 3, 1) := by decide +kernel
theorem dL_law_612 : decode cL_law 612 = .ok (.iconst 2, 1) := by decide +kernel
theorem dL_law_613 : decode cL_law 613 = .ok (.iadd, 1) := by decide +kernel
theorem dL_law_614 : decode cL_law 614 = .ok (.iaload, 1) := by decide +kernel
theorem dL_law_615 : decode cL_law 615 = .ok (.aload_n 0, 1) := by decide +kernel
theorem dL_law_616 : decode cL_law 616 = .ok (.iload_n 3, 1) := by decide +kernel
theorem dL_law_617 : decode cL_law 617 = .ok (.iconst 3, 1) := by decide +kernel
theorem dL_law_618 : decode cL_law 618 = .ok (.iadd, 1) := by decide +kernel
theorem dL_law_619 : decode cL_law 619 = .ok (.iaload, 1) := by decide +kernel
theorem dL_law_620 : decode cL_law 620 = .ok (.aload_n 0, 1) := by decide +kernel
theorem dL_law_621 : decode cL_law 621 = .ok (.iload_n 3, 1) := by decide +kernel
theorem dL_law_622 : decode cL_law 622 = .ok (.iconst 4, 1) := by decide +kernel
theorem dL_law_623 : decode cL_law 623 = .ok (.iadd, 1) := by decide +kernel
theorem dL_law_624 : decode cL_law 624 = .ok (.iaload, 1) := by decide +kernel
theorem dL_law_625 : decode cL_law 625 = .ok (.i2l, 1) := by decide +kernel
theorem dL_law_626 : decode cL_law 626 = .ok (.bipush 32, 2) := by decide +kernel
theorem dL_law_628 : decode cL_law 628 = .ok (.lshl, 1) := by decide +kernel
theorem dL_law_629 : decode cL_law 629 = .ok (.aload_n 0, 1) := by decide +kernel
theorem dL_law_630 : decode cL_law 630 = .ok (.iload_n 3, 1) := by decide +kernel
theorem dL_law_631 : decode cL_law 631 = .ok (.iconst 5, 1) := by decide +kernel
theorem dL_law_632 : decode cL_law 632 = .ok (.iadd, 1) := by decide +kernel
theorem dL_law_633 : decode cL_law 633 = .ok (.iaload, 1) := by decide +kernel
theorem dL_law_634 : decode cL_law 634 = .ok (.i2l, 1) := by decide +kernel
theorem dL_law_635 : decode cL_law 635 = .ok (.ldc2_w 66, 3) := by decide +kernel
theorem dL_law_638 : decode cL_law 638 = .ok (.land, 1) := by decide +kernel
theorem dL_law_639 : decode cL_law 639 = .ok (.lor, 1) := by decide +kernel
theorem dL_law_640 : decode cL_law 640 = .ok (.invokevirtual 68, 3) := by decide +kernel
theorem dL_law_643 : decode cL_law 643 = .ok (.aload_n 2, 1) := by decide +kernel
theorem dL_law_644 : decode cL_law 644 = .ok (.aload_n 0, 1) := by decide +kernel
theorem dL_law_645 : decode cL_law 645 = .ok (.iload_n 3, 1) := by decide +kernel
theorem dL_law_646 : decode cL_law 646 = .ok (.iconst 1, 1) := by decide +kernel
theorem dL_law_647 : decode cL_law 647 = .ok (.iadd, 1) := by decide +kernel
theorem dL_law_648 : decode cL_law 648 = .ok (.iaload, 1) := by decide +kernel
theorem dL_law_649 : decode cL_law 649 = .ok (.aload_n 0, 1) := by decide +kernel
theorem dL_law_650 : decode cL_law 650 = .ok (.iload_n 3, 1) := by decide +kernel
theorem dL_law_651 : decode cL_law 651 = .ok (.iconst 2, 1) := by decide +kernel
theorem dL_law_652 : decode cL_law 652 = .ok (.iadd, 1) := by decide +kernel
theorem dL_law_653 : decode cL_law 653 = .ok (.iaload, 1) := by decide +kernel
theorem dL_law_654 : decode cL_law 654 = .ok (.aload_n 0, 1) := by decide +kernel
theorem dL_law_655 : decode cL_law 655 = .ok (.iload_n 3, 1) := by decide +kernel
theorem dL_law_656 : decode cL_law 656 = .ok (.iconst 3, 1) := by decide +kernel
theorem dL_law_657 : decode cL_law 657 = .ok (.iadd, 1) := by decide +kernel
theorem dL_law_658 : decode cL_law 658 = .ok (.iaload, 1) := by decide +kernel
theorem dL_law_659 : decode cL_law 659 = .ok (.aload_n 0, 1) := by decide +kernel
theorem dL_law_660 : decode cL_law 660 = .ok (.iload_n 3, 1) := by decide +kernel
theorem dL_law_661 : decode cL_law 661 = .ok (.iconst 4, 1) := by decide +kernel
theorem dL_law_662 : decode cL_law 662 = .ok (.iadd, 1) := by decide +kernel
theorem dL_law_663 : decode cL_law 663 = .ok (.iaload, 1) := by decide +kernel
theorem dL_law_664 : decode cL_law 664 = .ok (.i2l, 1) := by decide +kernel
theorem dL_law_665 : decode cL_law 665 = .ok (.bipush 32, 2) := by decide +kernel
theorem dL_law_667 : decode cL_law 667 = .ok (.lshl, 1) := by decide +kernel
theorem dL_law_668 : decode cL_law 668 = .ok (.aload_n 0, 1) := by decide +kernel
theorem dL_law_669 : decode cL_law 669 = .ok (.iload_n 3, 1) := by decide +kernel
theorem dL_law_670 : decode cL_law 670 = .ok (.iconst 5, 1) := by decide +kernel
theorem dL_law_671 : decode cL_law 671 = .ok (.iadd, 1) := by decide +kernel
theorem dL_law_672 : decode cL_law 672 = .ok (.iaload, 1) := by decide +kernel
theorem dL_law_673 : decode cL_law 673 = .ok (.i2l, 1) := by decide +kernel
theorem dL_law_674 : decode cL_law 674 = .ok (.ldc2_w 66, 3) := by decide +kernel
theorem dL_law_677 : decode cL_law 677 = .ok (.land, 1) := by decide +kernel
theorem dL_law_678 : decode cL_law 678 = .ok (.lor, 1) := by decide +kernel
theorem dL_law_679 : decode cL_law 679 = .ok (.invokevirtual 72, 3) := by decide +kernel
theorem dL_law_682 : decode cL_law 682 = .ok (.if_icmp .eq 269, 3) := by decide +kernel
theorem dL_law_685 : decode cL_law 685 = .ok (.iconst 0, 1) := by decide +kernel
theorem dL_law_686 : decode cL_law 686 = .ok (.ireturn, 1) := by decide +kernel
theorem dL_law_687 : decode cL_law 687 = .ok (.aload_n 1, 1) := by decide +kernel
end
section
theorem dL_law_688 : decode cL_law 688 = .ok (.aload_n 0, 1) := by decide +kernel
theorem dL_law_689 : decode cL_law 689 = .ok (.iload_n 3, 1) := by decide +kernel
theorem dL_law_690 : decode cL_law 690 = .ok (.iconst 1, 1) := by decide +kernel
theorem dL_law_691 : decode cL_law 691 = .ok (.iadd, 1) := by decide +kernel
theorem dL_law_692 : decode cL_law 692 = .ok (.iaload, 1) := by decide +kernel
theorem dL_law_693 : decode cL_law 693 = .ok (.invokevirtual 73, 3) := by decide +kernel
theorem dL_law_696 : decode cL_law 696 = .ok (.aload_n 2, 1) := by decide +kernel
theorem dL_law_697 : decode cL_law 697 = .ok (.aload_n 0, 1) := by decide +kernel
theorem dL_law_698 : decode cL_law 698 = .ok (.iload_n 3, 1) := by decide +kernel
theorem dL_law_699 : decode cL_law 699 = .ok (.iconst 1, 1) := by decide +kernel
theorem dL_law_700 : decode cL_law 700 = .ok (.iadd, 1) := by decide +kernel
theorem dL_law_701 : decode cL_law 701 = .ok (.iaload, 1) := by decide +kernel
theorem dL_law_702 : decode cL_law 702 = .ok (.invokevirtual 77, 3) := by decide +kernel
theorem dL_law_705 : decode cL_law 705 = .ok (.lcmp, 1) := by decide +kernel
theorem dL_law_706 : decode cL_law 706 = .ok (.ifCond .eq 245, 3) := by decide +kernel
theorem dL_law_709 : decode cL_law 709 = .ok (.iconst 0, 1) := by decide +kernel
theorem dL_law_710 : decode cL_law 710 = .ok (.ireturn, 1) := by decide +kernel
theorem dL_law_711 : decode cL_law 711 = .ok (.aload_n 1, 1) := by decide +kernel
theorem dL_law_712 : decode cL_law 712 = .ok (.aload_n 0, 1) := by decide +kernel
theorem dL_law_713 : decode cL_law 713 = .ok (.iload_n 3, 1) := by decide +kernel
theorem dL_law_714 : decode cL_law 714 = .ok (.iconst 1, 1) := by decide +kernel
theorem dL_law_715 : decode cL_law 715 = .ok (.iadd, 1) := by decide +kernel
theorem dL_law_716 : decode cL_law 716 = .ok (.iaload, 1) := by decide +kernel
theorem dL_law_717 : decode cL_law 717 = .ok (.aload_n 0, 1) := by decide +kernel
theorem dL_law_718 : decode cL_law 718 = .ok (.iload_n 3, 1) := by decide +kernel
theorem dL_law_719 : decode cL_law 719 = .ok (.iconst 2, 1) := by decide +kernel
theorem dL_law_720 : decode cL_law 720 = .ok (.iadd, 1) := by decide +kernel
theorem dL_law_721 : decode cL_law 721 = .ok (.iaload, 1) := by decide +kernel
theorem dL_law_722 : decode cL_law 722 = .ok (.aload_n 0, 1) := by decide +kernel
theorem dL_law_723 : decode cL_law 723 = .ok (.iload_n 3, 1) := by decide +kernel
theorem dL_law_724 : decode cL_law 724 = .ok (.iconst 3, 1) := by decide +kernel
theorem dL_law_725 : decode cL_law 725 = .ok (.iadd, 1) := by decide +kernel
theorem dL_law_726 : decode cL_law 726 = .ok (.iaload, 1) := by decide +kernel
theorem dL_law_727 : decode cL_law 727 = .ok (.invokevirtual 78, 3) := by decide +kernel
theorem dL_law_730 : decode cL_law 730 = .ok (.aload_n 2, 1) := by decide +kernel
theorem dL_law_731 : decode cL_law 731 = .ok (.aload_n 0, 1) := by decide +kernel
theorem dL_law_732 : decode cL_law 732 = .ok (.iload_n 3, 1) := by decide +kernel
theorem dL_law_733 : decode cL_law 733 = .ok (.iconst 1, 1) := by decide +kernel
theorem dL_law_734 : decode cL_law 734 = .ok (.iadd, 1) := by decide +kernel
theorem dL_law_735 : decode cL_law 735 = .ok (.iaload, 1) := by decide +kernel
theorem dL_law_736 : decode cL_law 736 = .ok (.aload_n 0, 1) := by decide +kernel
theorem dL_law_737 : decode cL_law 737 = .ok (.iload_n 3, 1) := by decide +kernel
theorem dL_law_738 : decode cL_law 738 = .ok (.iconst 2, 1) := by decide +kernel
theorem dL_law_739 : decode cL_law 739 = .ok (.iadd, 1) := by decide +kernel
theorem dL_law_740 : decode cL_law 740 = .ok (.iaload, 1) := by decide +kernel
theorem dL_law_741 : decode cL_law 741 = .ok (.aload_n 0, 1) := by decide +kernel
theorem dL_law_742 : decode cL_law 742 = .ok (.iload_n 3, 1) := by decide +kernel
theorem dL_law_743 : decode cL_law 743 = .ok (.iconst 3, 1) := by decide +kernel
theorem dL_law_744 : decode cL_law 744 = .ok (.iadd, 1) := by decide +kernel
theorem dL_law_745 : decode cL_law 745 = .ok (.iaload, 1) := by decide +kernel
theorem dL_law_746 : decode cL_law 746 = .ok (.invokevirtual 81, 3) := by decide +kernel
theorem dL_law_749 : decode cL_law 749 = .ok (.lcmp, 1) := by decide +kernel
theorem dL_law_750 : decode cL_law 750 = .ok (.ifCond .eq 201, 3) := by decide +kernel
theorem dL_law_753 : decode cL_law 753 = .ok (.iconst 0, 1) := by decide +kernel
theorem dL_law_754 : decode cL_law 754 = .ok (.ireturn, 1) := by decide +kernel
theorem dL_law_755 : decode cL_law 755 = .ok (.aload_n 1, 1) := by decide +kernel
theorem dL_law_756 : decode cL_law 756 = .ok (.aload_n 0, 1) := by decide +kernel
theorem dL_law_757 : decode cL_law 757 = .ok (.iload_n 3, 1) := by decide +kernel
theorem dL_law_758 : decode cL_law 758 = .ok (.iconst 1, 1) := by decide +kernel
theorem dL_law_759 : decode cL_law 759 = .ok (.iadd, 1) := by decide +kernel
theorem dL_law_760 : decode cL_law 760 = .ok (.iaload, 1) := by decide +kernel
theorem dL_law_761 : decode cL_law 761 = .ok (.aload_n 0, 1) := by decide +kernel
theorem dL_law_762 : decode cL_law 762 = .ok (.iload_n 3, 1) := by decide +kernel
theorem dL_law_763 : decode cL_law 763 = .ok (.iconst 2, 1) := by decide +kernel
theorem dL_law_764 : decode cL_law 764 = .ok (.iadd, 1) := by decide +kernel
theorem dL_law_765 : decode cL_law 765 = .ok (.iaload, 1) := by decide +kernel
theorem dL_law_766 : decode cL_law 766 = .ok (.invokevirtual 82, 3) := by decide +kernel
theorem dL_law_769 : decode cL_law 769 = .ok (.aload_n 2, 1) := by decide +kernel
theorem dL_law_770 : decode cL_law 770 = .ok (.aload_n 0, 1) := by decide +kernel
theorem dL_law_771 : decode cL_law 771 = .ok (.iload_n 3, 1) := by decide +kernel
theorem dL_law_772 : decode cL_law 772 = .ok (.iconst 1, 1) := by decide +kernel
theorem dL_law_773 : decode cL_law 773 = .ok (.iadd, 1) := by decide +kernel
theorem dL_law_774 : decode cL_law 774 = .ok (.iaload, 1) := by decide +kernel
theorem dL_law_775 : decode cL_law 775 = .ok (.aload_n 0, 1) := by decide +kernel
theorem dL_law_776 : decode cL_law 776 = .ok (.iload_n 3, 1) := by decide +kernel
theorem dL_law_777 : decode cL_law 777 = .ok (.iconst 2, 1) := by decide +kernel
theorem dL_law_778 : decode cL_law 778 = .ok (.iadd, 1) := by decide +kernel
theorem dL_law_779 : decode cL_law 779 = .ok (.iaload, 1) := by decide +kernel
theorem dL_law_780 : decode cL_law 780 = .ok (.invokevirtual 85, 3) := by decide +kernel
theorem dL_law_783 : decode cL_law 783 = .ok (.if_icmp .eq 168, 3) := by decide +kernel
theorem dL_law_786 : decode cL_law 786 = .ok (.iconst 0, 1) := by decide +kernel
theorem dL_law_787 : decode cL_law 787 = .ok (.ireturn, 1) := by decide +kernel
theorem dL_law_788 : decode cL_law 788 = .ok (.aload_n 1, 1) := by decide +kernel
theorem dL_law_789 : decode cL_law 789 = .ok (.aload_n 0, 1) := by decide +kernel
theorem dL_law_790 : decode cL_law 790 = .ok (.iload_n 3, 1) := by decide +kernel
theorem dL_law_791 : decode cL_law 791 = .ok (.iconst 1, 1) := by decide +kernel
theorem dL_law_792 : decode cL_law 792 = .ok (.iadd, 1) := by decide +kernel
theorem dL_law_793 : decode cL_law 793 = .ok (.iaload, 1) := by decide +kernel
theorem dL_law_794 : decode cL_law 794 = .ok (.aload_n 0, 1) := by decide +kernel
theorem dL_law_795 : decode cL_law 795 = .ok (.iload_n 3, 1) := by decide +kernel
theorem dL_law_796 : decode cL_law 796 = .ok (.iconst 2, 1) := by decide +kernel
theorem dL_law_797 : decode cL_law 797 = .ok (.iadd, 1) := by decide +kernel
theorem dL_law_798 : decode cL_law 798 = .ok (.iaload, 1) := by decide +kernel
theorem dL_law_799 : decode cL_law 799 = .ok (.invokevirtual 86, 3) := by decide +kernel
theorem dL_law_802 : decode cL_law 802 = .ok (.aload_n 2, 1) := by decide +kernel
theorem dL_law_803 : decode cL_law 803 = .ok (.aload_n 0, 1) := by decide +kernel
theorem dL_law_804 : decode cL_law 804 = .ok (.iload_n 3, 1) := by decide +kernel
theorem dL_law_805 : decode cL_law 805 = .ok (.iconst 1, 1) := by decide +kernel
theorem dL_law_806 : decode cL_law 806 = .ok (.iadd, 1) := by decide +kernel
theorem dL_law_807 : decode cL_law 807 = .ok (.iaload, 1) := by decide +kernel
theorem dL_law_808 : decode cL_law 808 = .ok (.aload_n 0, 1) := by decide +kernel
theorem dL_law_809 : decode cL_law 809 = .ok (.iload_n 3, 1) := by decide +kernel
theorem dL_law_810 : decode cL_law 810 = .ok (.iconst 2, 1) := by decide +kernel
theorem dL_law_811 : decode cL_law 811 = .ok (.iadd, 1) := by decide +kernel
theorem dL_law_812 : decode cL_law 812 = .ok (.iaload, 1) := by decide +kernel
theorem dL_law_813 : decode cL_law 813 = .ok (.invokevirtual 89, 3) := by decide +kernel
theorem dL_law_816 : decode cL_law 816 = .ok (.if_icmp .eq 135, 3) := by decide +kernel
theorem dL_law_819 : decode cL_law 819 = .ok (.iconst 0, 1) := by decide +kernel
theorem dL_law_820 : decode cL_law 820 = .ok (.ireturn, 1) := by decide +kernel
theorem dL_law_821 : decode cL_law 821 = .ok (.aload_n 1, 1) := by decide +kernel
theorem dL_law_822 : decode cL_law 822 = .ok (.aload_n 0, 1) := by decide +kernel
theorem dL_law_823 : decode cL_law 823 = .ok (.iload_n 3, 1) := by decide +kernel
theorem dL_law_824 : decode cL_law 824 = .ok (.iconst 1, 1) := by decide +kernel
theorem dL_law_825 : decode cL_law 825 = .ok (.iadd, 1) := by decide +kernel
theorem dL_law_826 : decode cL_law 826 = .ok (.iaload, 1) := by decide +kernel
theorem dL_law_827 : decode cL_law 827 = .ok (.aload_n 0, 1) := by decide +kernel
theorem dL_law_828 : decode cL_law 828 = .ok (.iload_n 3, 1) := by decide +kernel
theorem dL_law_829 : decode cL_law 829 = .ok (.iconst 2, 1) := by decide +kernel
theorem dL_law_830 : decode cL_law 830 = .ok (.iadd, 1) := by decide +kernel
theorem dL_law_831 : decode cL_law 831 = .ok (.iaload, 1) := by decide +kernel
theorem dL_law_832 : decode cL_law 832 = .ok (.aload_n 0, 1) := by decide +kernel
theorem dL_law_833 : decode cL_law 833 = .ok (.iload_n 3, 1) := by decide +kernel
theorem dL_law_834 : decode cL_law 834 = .ok (.iconst 3, 1) := by decide +kernel
theorem dL_law_835 : decode cL_law 835 = .ok (.iadd, 1) := by decide +kernel
theorem dL_law_836 : decode cL_law 836 = .ok (.iaload, 1) := by decide +kernel
theorem dL_law_837 : decode cL_law 837 = .ok (.aload_n 0, 1) := by decide +kernel
theorem dL_law_838 : decode cL_law 838 = .ok (.iload_n 3, 1) := by decide +kernel
theorem dL_law_839 : decode cL_law 839 = .ok (.iconst 4, 1) := by decide +kernel
theorem dL_law_840 : decode cL_law 840 = .ok (.iadd, 1) := by decide +kernel
theorem dL_law_841 : decode cL_law 841 = .ok (.iaload, 1) := by decide +kernel
theorem dL_law_842 : decode cL_law 842 = .ok (.aload_n 0, 1) := by decide +kernel
theorem dL_law_843 : decode cL_law 843 = .ok (.iload_n 3, 1) := by decide +kernel
theorem dL_law_844 : decode cL_law 844 = .ok (.iconst 5, 1) := by decide +kernel
theorem dL_law_845 : decode cL_law 845 = .ok (.iadd, 1) := by decide +kernel
theorem dL_law_846 : decode cL_law 846 = .ok (.iaload, 1) := by decide +kernel
theorem dL_law_847 : decode cL_law 847 = .ok (.i2l, 1) := by decide +kernel
theorem dL_law_848 : decode cL_law 848 = .ok (.bipush 32, 2) := by decide +kernel
theorem dL_law_850 : decode cL_law 850 = .ok (.lshl, 1) := by decide +kernel
theorem dL_law_851 : decode cL_law 851 = .ok (.aload_n 0, 1) := by decide +kernel
theorem dL_law_852 : decode cL_law 852 = .ok (.iload_n 3, 1) := by decide +kernel
theorem dL_law_853 : decode cL_law 853 = .ok (.bipush 6, 2) := by decide +kernel
theorem dL_law_855 : decode cL_law 855 = .ok (.iadd, 1) := by decide +kernel
theorem dL_law_856 : decode cL_law 856 = .ok (.iaload, 1) := by decide +kernel
theorem dL_law_857 : decode cL_law 857 = .ok (.i2l, 1) := by decide +kernel
theorem dL_law_858 : decode cL_law 858 = .ok (.ldc2_w 66, 3) := by decide +kernel
theorem dL_law_861 : decode cL_law 861 = .ok (.land, 1) := by decide +kernel
theorem dL_law_862 : decode cL_law 862 = .ok (.lor, 1) := by decide +kernel
theorem dL_law_863 : decode cL_law 863 = .ok (.aload_n 0, 1) := by decide +kernel
theorem dL_law_864 : decode cL_law 864 = .ok (.iload_n 3, 1) := by decide +kernel
theorem dL_law_865 : decode cL_law 865 = .ok (.bipush 7, 2) := by decide +kernel
theorem dL_law_867 : decode cL_law 867 = .ok (.iadd, 1) := by decide +kernel
theorem dL_law_868 : decode cL_law 868 = .ok (.iaload, 1) := by decide +kernel
theorem dL_law_869 : decode cL_law 869 = .ok (.invokevirtual 90, 3) := by decide +kernel
theorem dL_law_872 : decode cL_law 872 = .ok (.aload_n 2, 1) := by decide +kernel
theorem dL_law_873 : decode cL_law 873 = .ok (.aload_n 0, 1) := by decide +kernel
theorem dL_law_874 : decode cL_law 874 = .ok (.iload_n 3, 1) := by decide +kernel
theorem dL_law_875 : decode cL_law 875 = .ok (.iconst 1, 1) := by decide +kernel
theorem dL_law_876 : decode cL_law 876 = .ok (.iadd, 1) := by decide +kernel
theorem dL_law_877 : decode cL_law 877 = .ok (.iaload, 1) := by decide +kernel
theorem dL_law_878 : decode cL_law 878 = .ok (.aload_n 0, 1) := by decide +kernel
theorem dL_law_879 : decode cL_law 879 = .ok (.iload_n 3, 1) := by decide +kernel
theorem dL_law_880 : decode cL_law 880 = .ok (.iconst 2, 1) := by decide +kernel
theorem dL_law_881 : decode cL_law 881 = .ok (.iadd, 1) := by decide +kernel
theorem dL_law_882 : decode cL_law 882 = .ok (.iaload, 1) := by decide +kernel
theorem dL_law_883 : decode cL_law 883 = .ok (.aload_n 0, 1) := by decide +kernel
theorem dL_law_884 : decode cL_law 884 = .ok (.iload_n 3, 1) := by decide +kernel
theorem dL_law_885 : decode cL_law 885 = .ok (.iconst 3, 1) := by decide +kernel
theorem dL_law_886 : decode cL_law 886 = .ok (.iadd, 1) := by decide +kernel
theorem dL_law_887 : decode cL_law 887 = .ok (.iaload, 1) := by decide +kernel
theorem dL_law_888 : decode cL_law 888 = .ok (.aload_n 0, 1) := by decide +kernel
theorem dL_law_889 : decode cL_law 889 = .ok (.iload_n 3, 1) := by decide +kernel
theorem dL_law_890 : decode cL_law 890 = .ok (.iconst 4, 1) := by decide +kernel
theorem dL_law_891 : decode cL_law 891 = .ok (.iadd, 1) := by decide +kernel
theorem dL_law_892 : decode cL_law 892 = .ok (.iaload, 1) := by decide +kernel
theorem dL_law_893 : decode cL_law 893 = .ok (.aload_n 0, 1) := by decide +kernel
theorem dL_law_894 : decode cL_law 894 = .ok (.iload_n 3, 1) := by decide +kernel
theorem dL_law_895 : decode cL_law 895 = .ok (.iconst 5, 1) := by decide +kernel
theorem dL_law_896 : decode cL_law 896 = .ok (.iadd, 1) := by decide +kernel
theorem dL_law_897 : decode cL_law 897 = .ok (.iaload, 1) := by decide +kernel
theorem dL_law_898 : decode cL_law 898 = .ok (.i2l, 1) := by decide +kernel
theorem dL_law_899 : decode cL_law 899 = .ok (.bipush 32, 2) := by decide +kernel
theorem dL_law_901 : decode cL_law 901 = .ok (.lshl, 1) := by decide +kernel
theorem dL_law_902 : decode cL_law 902 = .ok (.aload_n 0, 1) := by decide +kernel
theorem dL_law_903 : decode cL_law 903 = .ok (.iload_n 3, 1) := by decide +kernel
theorem dL_law_904 : decode cL_law 904 = .ok (.bipush 6, 2) := by decide +kernel
theorem dL_law_906 : decode cL_law 906 = .ok (.iadd, 1) := by decide +kernel
theorem dL_law_907 : decode cL_law 907 = .ok (.iaload, 1) := by decide +kernel
theorem dL_law_908 : decode cL_law 908 = .ok (.i2l, 1) := by decide +kernel
theorem dL_law_909 : decode cL_law 909 = .ok (.ldc2_w 66, 3) := by decide +kernel
theorem dL_law_912 : decode cL_law 912 = .ok (.land, 1) := by decide +kernel
theorem dL_law_913 : decode cL_law 913 = .ok (.lor, 1) := by decide +kernel
theorem dL_law_914 : decode cL_law 914 = .ok (.aload_n 0, 1) := by decide +kernel
theorem dL_law_915 : decode cL_law 915 = .ok (.iload_n 3, 1) := by decide +kernel
theorem dL_law_916 : decode cL_law 916 = .ok (.bipush 7, 2) := by decide +kernel
theorem dL_law_918 : decode cL_law 918 = .ok (.iadd, 1) := by decide +kernel
theorem dL_law_919 : decode cL_law 919 = .ok (.iaload, 1) := by decide +kernel
theorem dL_law_920 : decode cL_law 920 = .ok (.invokevirtual 94, 3) := by decide +kernel
theorem dL_law_923 : decode cL_law 923 = .ok (.if_icmp .eq 28, 3) := by decide +kernel
theorem dL_law_926 : decode cL_law 926 = .ok (.iconst 0, 1) := by decide +kernel
theorem dL_law_927 : decode cL_law 927 = .ok (.ireturn, 1) := by decide +kernel
theorem dL_law_928 : decode cL_law 928 = .ok (.aload_n 1, 1) := by decide +kernel
theorem dL_law_929 : decode cL_law 929 = .ok (.aload_n 0, 1) := by decide +kernel
theorem dL_law_930 : decode cL_law 930 = .ok (.iload_n 3, 1) := by decide +kernel
theorem dL_law_931 : decode cL_law 931 = .ok (.iconst 1, 1) := by decide +kernel
theorem dL_law_932 : decode cL_law 932 = .ok (.iadd, 1) := by decide +kernel
theorem dL_law_933 : decode cL_law 933 = .ok (.iaload, 1) := by decide +kernel
theorem dL_law_934 : decode cL_law 934 = .ok (.invokevirtual 95, 3) := by decide +kernel
theorem dL_law_937 : decode cL_law 937 = .ok (.aload_n 2, 1) := by decide +kernel
theorem dL_law_938 : decode cL_law 938 = .ok (.aload_n 0, 1) := by decide +kernel
theorem dL_law_939 : decode cL_law 939 = .ok (.iload_n 3, 1) := by decide +kernel
theorem dL_law_940 : decode cL_law 940 = .ok (.iconst 1, 1) := by decide +kernel
theorem dL_law_941 : decode cL_law 941 = .ok (.iadd, 1) := by decide +kernel
theorem dL_law_942 : decode cL_law 942 = .ok (.iaload, 1) := by decide +kernel
theorem dL_law_943 : decode cL_law 943 = .ok (.invokevirtual 99, 3) := by decide +kernel
theorem dL_law_946 : decode cL_law 946 = .ok (.if_icmp .eq 5, 3) := by decide +kernel
theorem dL_law_949 : decode cL_law 949 = .ok (.iconst 0, 1) := by decide +kernel
theorem dL_law_950 : decode cL_law 950 = .ok (.ireturn, 1) := by decide +kernel
theorem dL_law_951 : decode cL_law 951 = .ok (.iinc 3 8, 3) := by decide +kernel
theorem dL_law_954 : decode cL_law 954 = .ok (.goto (-936), 3) := by decide +kernel
theorem dL_law_957 : decode cL_law 957 = .ok (.iconst 1, 1) := by decide +kernel
theorem dL_law_958 : decode cL_law 958 = .ok (.ireturn, 1) := by decide +kernel
end
section
/-! The two systems' states as numbered rows, worlds made of them, and the kit's rows over such worlds. -/
abbrev MS : Type := (Nat → Nat → Int32) × (Nat → Nat → Int64) × (Nat → Int32)
def uI (S : MS) (k i : Nat) (v : Int32) : MS := (fun a => if a = k then upd (S.1 a) i v else S.1 a, S.2)
def uL (S : MS) (k i : Nat) (v : Int64) : MS := (S.1, fun a => if a = k then vp_updL (S.2.1 a) i v else S.2.1 a, S.2.2)
def uC (S : MS) (k : Nat) (f : Nat → Int64) : MS := (S.1, fun a => if a = k then f else S.2.1 a, S.2.2)
def uF (S : MS) (k : Nat) (v : Int32) : MS := (S.1, S.2.1, fun a => if a = k then v else S.2.2 a)
/-- the words of the tables that stay good -/
def gw : List Cond := lw_tbl.filter goodWord
theorem gw_in {w : Cond} (h : w ∈ lw_tbl) (hg : goodWord w = true) : w ∈ gw := List.mem_filter.mpr ⟨h, hg⟩
theorem gw_GoodIn {y y' : MethodName} {cc cc' : ByteArray} {n n' : Nat} {r r' : Option FieldType} (h : Cond.code y' cc' n' r' ∈ lw_tbl) : GoodIn (Cond.code y cc n r :: gw) (Cond.code y' cc' n' r' :: gw) := by
  intro w hw
  rcases List.mem_cons.mp hw with rfl | hw
  · exact ⟨List.mem_cons_of_mem _ (gw_in h rfl), Or.inl rfl⟩
  · exact ⟨List.mem_cons_of_mem _ hw, good_of_word (List.mem_filter.mp hw).2⟩
theorem gw_GoodIn' {y' : MethodName} {cc' : ByteArray} {n' : Nat} {r' : Option FieldType} (h : Cond.code y' cc' n' r' ∈ lw_tbl) : GoodIn gw (Cond.code y' cc' n' r' :: gw) := by
  intro w hw
  rcases List.mem_cons.mp hw with rfl | hw
  · exact ⟨(gw_in h rfl), Or.inl rfl⟩
  · exact ⟨hw, good_of_word (List.mem_filter.mp hw).2⟩
/-- links to private members of nest mates -/
def nestW : List (String × Nat × MethodName × String) := [(RX5, 9, yX2_init, RX5), (RX5, 18, yX0_init, RX5), (RX5, 25, yX4_init, RX5), (RX4, 48, yX5_spread, RX5), (RX4, 59, yX5_hasBit, RX5), (RX4, 62, yX5_packed, RX5), (RX1, 118, yX5_hasBit, RX5), (RX1, 83, yX5_packed, RX5)]
def nests (U : State) : Prop := ∀ q ∈ nestW, va_Nw (.methodLinkNest q.1 q.2.1 q.2.2.1 q.2.2.2) U
theorem nests.warm {s U : State} (hW : s.WarmedH U.vm) (h : nests s) : nests U := fun q hq => va_Nw.warmM hW (h q hq)
theorem nests.same {s U : State} (hW : s.vm = U.vm) (h : nests s) : nests U := fun q hq => va_Nw.same rfl hW (h q hq)
/-- a world holds: the tables, the cells, apart, nothing else has changed -/
def WW (D : va_G) (tys : List (ClassId × FieldType)) (ws : va_W) (A : Nat → Prop) (s : State) (H : Heap) (locs : List Loc) : Prop :=
  va_K D vwCl tys s ∧ va_P D vwCl ws H ∧ va_D A ws ∧ va_S A s.heap H locs ∧ (∀ q : Nat, s.heap.size ≤ q → A q) ∧ nests s
/-- what a method's body knows of the machine -/
def Cx (p : Program) (s : State) (m : MethodId) (args : Array Value) (meth : Method) (c : Code) (own : String) (cc : ByteArray) (nL : Nat) (ret : Option FieldType) : Prop :=
  p.tables.exec = Jvm.exec ∧ c.code = cc ∧ meth.sig.returnType = ret ∧ c.maxLocals = nL ∧ s.vm.findClass own = some m.cls ∧ (∀ w ∈ gw, w.before args s = true) ∧ meth.locks = false
theorem Cx.w {p : Program} {s : State} {m : MethodId} {args : Array Value} {meth : Method} {c : Code} {own : String} {cc : ByteArray} {nL : Nat} {ret : Option FieldType} (C : Cx p s m args meth c own cc nL ret) {w : Cond} (h : w ∈ lw_tbl) (hg : goodWord w = true) : w.before args s = true := C.2.2.2.2.2.1 w (gw_in h hg)
def Kpre (D : va_G) (tys : List (ClassId × FieldType)) (ws : va_W) (sz : Nat) (U : State) : Prop := U.heap.size = sz ∧ va_P D vwCl ws U.heap ∧ va_K D vwCl tys U ∧ va_D (fun _ => True) ws ∧ nests U
def Kpost (D : va_G) (tys : List (ClassId × FieldType)) (w : MS → va_W) (A : Nat → Prop) (S : MS) (t : State) : Prop := va_P D vwCl (w S) t.heap ∧ va_K D vwCl tys t ∧ va_D A (w S)
/-- contracts over a world: int, long, void -/
def Mi (l : Launch) (y : MethodName) (cc : ByteArray) (nL : Nat) (ret : Option FieldType) (rm : Room) (D : va_G) (tys : List (ClassId × FieldType)) (w : MS → va_W) (av : List Value) (S : MS) (Q : Int32 → MS → Prop) : Prop :=
  ∀ sz : Nat, Met l y (Cond.code y cc nL ret :: gw) rm (va_Pc av (Kpre D tys (w S) sz)) (va_Qi Q (Kpost D tys w (va_A (w S) sz)) (va_A (w S) sz)) 0 0 (va_A (w S) sz)
def Ml (l : Launch) (y : MethodName) (cc : ByteArray) (nL : Nat) (ret : Option FieldType) (rm : Room) (D : va_G) (tys : List (ClassId × FieldType)) (w : MS → va_W) (av : List Value) (S : MS) (Q : Int64 → MS → Prop) : Prop :=
  ∀ sz : Nat, Met l y (Cond.code y cc nL ret :: gw) rm (va_Pc av (Kpre D tys (w S) sz)) (va_Ql Q (Kpost D tys w (va_A (w S) sz)) (va_A (w S) sz)) 0 0 (va_A (w S) sz)
def Mv (l : Launch) (y : MethodName) (cc : ByteArray) (nL : Nat) (ret : Option FieldType) (rm : Room) (D : va_G) (tys : List (ClassId × FieldType)) (w : MS → va_W) (av : List Value) (S : MS) (Q : MS → Prop) : Prop :=
  ∀ sz : Nat, Met l y (Cond.code y cc nL ret :: gw) rm (va_Pc av (Kpre D tys (w S) sz)) (va_Qv Q (Kpost D tys w (va_A (w S) sz)) (va_A (w S) sz)) 0 0 (va_A (w S) sz)
def Zi (D : va_G) (tys : List (ClassId × FieldType)) (w : MS → va_W) (A : Nat → Prop) (below : List Frame) (args : Array Value) (s : State) (Q : Int32 → MS → Prop) : State → Prop := MQ below (va_Qi Q (Kpost D tys w A) A) args s 0 0 A
def Zl (D : va_G) (tys : List (ClassId × FieldType)) (w : MS → va_W) (A : Nat → Prop) (below : List Frame) (args : Array Value) (s : State) (Q : Int64 → MS → Prop) : State → Prop := MQ below (va_Ql Q (Kpost D tys w A) A) args s 0 0 A
def Zv (D : va_G) (tys : List (ClassId × FieldType)) (w : MS → va_W) (A : Nat → Prop) (below : List Frame) (args : Array Value) (s : State) (Q : MS → Prop) : State → Prop := MQ below (va_Qv Q (Kpost D tys w A) A) args s 0 0 A
section ENTER
variable {l : Launch} {y : MethodName} {cc : ByteArray} {nL : Nat} {ret : Option FieldType} {rm : Room} {D : va_G} {tys : List (ClassId × FieldType)} {w : MS → va_W} {av : List Value} {S : MS}
/-- from a method's contract to its body, for any end -/
theorem w_enter {Qc : (Nat → Prop) → Array Value → State → Outcome → State → Prop} (hy : plainName y.cls = true) (hlen : (lg_sl av).length ≤ nL)
    (body : ∀ (p : Program) (e : Env) (s : State) (m : MethodId) (args : Array Value) (below : List Frame) (meth : Method) (c : Code) (A : Nat → Prop) (ls : Array Slot), Cx p s m args meth c y.cls cc nL ret → WW D tys (w S) A s s.heap [] → lv_has ls nL (lv_args 0 av) →
      W p l e rm s m args below meth c s.heap [] 0 0 (MQ below (Qc A) args s 0 0 A) (F0 m 0 ls [])) (sz : Nat) :
    Met l y (Cond.code y cc nL ret :: gw) rm (va_Pc av (Kpre D tys (w S) sz)) (Qc (va_A (w S) sz)) 0 0 (va_A (w S) sz) := by
  refine Met.ofW (cc := cc) (maxL := nL) (ret := ret) hy rfl ?_
  intro p e s m args below meth c s₁ B hml hv
  obtain ⟨rfl, hsz, hP, hK, hD0, hN⟩ := hv
  have hts := atoms_spec (ws := Cond.code y cc nL ret :: gw) B.pre
  have hown : s.vm.findClass y.cls = some m.cls := findClass_of_methodNamed B.named
  subst hsz
  have hD := hD0.self (sz := s.heap.size)
  have hl := lv_entry av (n := nL) hlen
  rw [lg_entry_eq]
  generalize (lg_sl av ++ List.replicate (nL - (lg_sl av).length) Slot.unset).toArray = ls at hl ⊢
  exact body p e s m av.toArray below meth c (va_A (w S) s.heap.size) ls ⟨B.exec, B.bytes, B.returns, hml, hown, fun w' h => hts w' (List.mem_cons_of_mem _ h), B.notSynchronized⟩
    ⟨hK, hP, hD, va_S.rf, fun q h => Or.inr h, hN⟩ hl
theorem Mi.of {Q : Int32 → MS → Prop} (hy : plainName y.cls = true) (hlen : (lg_sl av).length ≤ nL)
    (body : ∀ (p : Program) (e : Env) (s : State) (m : MethodId) (args : Array Value) (below : List Frame) (meth : Method) (c : Code) (A : Nat → Prop) (ls : Array Slot), Cx p s m args meth c y.cls cc nL ret → WW D tys (w S) A s s.heap [] → lv_has ls nL (lv_args 0 av) →
      W p l e rm s m args below meth c s.heap [] 0 0 (Zi D tys w A below args s Q) (F0 m 0 ls [])) : Mi l y cc nL ret rm D tys w av S Q :=
  fun sz => w_enter (Qc := fun A => va_Qi Q (Kpost D tys w A) A) hy hlen body sz
theorem Ml.of {Q : Int64 → MS → Prop} (hy : plainName y.cls = true) (hlen : (lg_sl av).length ≤ nL)
    (body : ∀ (p : Program) (e : Env) (s : State) (m : MethodId) (args : Array Value) (below : List Frame) (meth : Method) (c : Code) (A : Nat → Prop) (ls : Array Slot), Cx p s m args meth c y.cls cc nL ret → WW D tys (w S) A s s.heap [] → lv_has ls nL (lv_args 0 av) →
      W p l e rm s m args below meth c s.heap [] 0 0 (Zl D tys w A below args s Q) (F0 m 0 ls [])) : Ml l y cc nL ret rm D tys w av S Q :=
  fun sz => w_enter (Qc := fun A => va_Ql Q (Kpost D tys w A) A) hy hlen body sz
theorem Mv.of {Q : MS → Prop} (hy : plainName y.cls = true) (hlen : (lg_sl av).length ≤ nL)
    (body : ∀ (p : Program) (e : Env) (s : State) (m : MethodId) (args : Array Value) (below : List Frame) (meth : Method) (c : Code) (A : Nat → Prop) (ls : Array Slot), Cx p s m args meth c y.cls cc nL ret → WW D tys (w S) A s s.heap [] → lv_has ls nL (lv_args 0 av) →
      W p l e rm s m args below meth c s.heap [] 0 0 (Zv D tys w A below args s Q) (F0 m 0 ls [])) : Mv l y cc nL ret rm D tys w av S Q :=
  fun sz => w_enter (Qc := fun A => va_Qv Q (Kpost D tys w A) A) hy hlen body sz
end ENTER
section ROWS
variable {p : Program} {l : Launch} {e : Env} {R : Room} {s : State} {m : MethodId} {args : Array Value} {below : List Frame} {meth : Method} {c : Code} {H : Heap} {locs : List Loc} {Qz : State → Prop} {own : String} {cc : ByteArray} {nL pc : Nat} {ret : Option FieldType} {ls : Array Slot} {rest : List Value}
  {D : va_G} {tys : List (ClassId × FieldType)} {w : MS → va_W} {ws ws' : va_W} {A : Nat → Prop} {S : MS} {a : Nat}
theorem w_iret {Q : Int32 → MS → Prop} {v : Int32} (C : Cx p s m args meth c own cc nL (some .int)) (hw : WW D tys (w S) A s H locs) (hq : Q v S) (hdg : decode cc pc = .ok (.ireturn, 1)) :
    W p l e R s m args below meth c H locs 0 0 (Zi D tys w A below args s Q) (F0 m pc ls [.int v]) := by
  obtain ⟨hx, hb, hr, hml, hown, hts, hlocks⟩ := C
  obtain ⟨hK, hP, hD, hS, hA, hN⟩ := hw
  exact W.iret hx hb hr (fun t ht hW => ⟨⟨v, S, rfl, hq, by rw [ht]; exact hP, va_K.moved hW.alike hK, hD⟩, hS.F ht⟩) hS.2.2 hdg
theorem w_zret {Q : Int32 → MS → Prop} {v : Int32} (C : Cx p s m args meth c own cc nL (some .boolean)) (hw : WW D tys (w S) A s H locs) (hn : narrow .boolean (.int v) = .int v) (hq : Q v S) (hdg : decode cc pc = .ok (.ireturn, 1)) :
    W p l e R s m args below meth c H locs 0 0 (Zi D tys w A below args s Q) (F0 m pc ls [.int v]) := by
  obtain ⟨hx, hb, hr, hml, hown, hts, hlocks⟩ := C
  obtain ⟨hK, hP, hD, hS, hA, hN⟩ := hw
  exact W.zret hx hb hr hn (fun t ht hW => ⟨⟨v, S, rfl, hq, by rw [ht]; exact hP, va_K.moved hW.alike hK, hD⟩, hS.F ht⟩) hS.2.2 hdg
theorem w_lret {Q : Int64 → MS → Prop} {v : Int64} (C : Cx p s m args meth c own cc nL (some .long)) (hw : WW D tys (w S) A s H locs) (hq : Q v S) (hdg : decode cc pc = .ok (.lreturn, 1)) :
    W p l e R s m args below meth c H locs 0 0 (Zl D tys w A below args s Q) (F0 m pc ls [.long v]) := by
  obtain ⟨hx, hb, hr, hml, hown, hts, hlocks⟩ := C
  obtain ⟨hK, hP, hD, hS, hA, hN⟩ := hw
  exact W.lret hx hb hr (fun t ht hW => ⟨⟨v, S, rfl, hq, by rw [ht]; exact hP, va_K.moved hW.alike hK, hD⟩, hS.F ht⟩) hS.2.2 hdg
theorem w_vret {Q : MS → Prop} (C : Cx p s m args meth c own cc nL none) (hw : WW D tys (w S) A s H locs) (hq : Q S) (hdg : decode cc pc = .ok (.return_, 1)) :
    W p l e R s m args below meth c H locs 0 0 (Zv D tys w A below args s Q) (F0 m pc ls []) := by
  obtain ⟨hx, hb, hr, hml, hown, hts, hlocks⟩ := C
  obtain ⟨hK, hP, hD, hS, hA, hN⟩ := hw
  exact W.vret hx hb hr (fun t ht hW => ⟨⟨S, rfl, hq, by rw [ht]; exact hP, va_K.moved hW.alike hK, hD⟩, hS.F ht⟩) hS.2.2 hdg
theorem w_get {Cn : String} {T : u_T} {N ci index : Nat} (C : Cx p s m args meth c own cc nL ret) (hw : WW D tys ws A s H locs) (hin : ∀ w ∈ u_ws Cn T N, w ∈ gw) (q0 : Nat) {fs : List Value} (he : ws[q0]? = some (a, .inr (ci, fs))) (hc : vwCl[ci]? = some (Cn, T, N)) (k : Nat) (hk : k < N) (hl : Cond.fieldLink own index (T k).1 (T k).2.1 (T k).2.2.1 ∈ lw_tbl) {v : Value} (hv : fs[k]? = some v) (hdg : decode cc pc = .ok (.getfield index, 3))
    (kk : W p l e R s m args below meth c H locs 0 0 Qz (F0 m (pc + 3) ls (v :: rest))) : W p l e R s m args below meth c H locs 0 0 Qz (F0 m pc ls (.ref a :: rest)) := by
  have hlk := C.w hl rfl
  obtain ⟨hx, hb, hr, hml, hown, hts, hlocks⟩ := C
  obtain ⟨hK, hP, hD, hS, hA, hN⟩ := hw
  exact va_get (D := D) (ci := ci) (C := Cn) (T := T) (N := N) hx hb hts hin hown hK hP q0 he hc k hk hlk (fun _ h9 => h9) hv hdg kk
theorem w_put {Cn : String} {T : u_T} {N ci index : Nat} (C : Cx p s m args meth c own cc nL ret) (hw : WW D tys ws A s H locs) (hin : ∀ w ∈ u_ws Cn T N, w ∈ gw) (ty0 : Nat → FieldType) (hty : ∀ k, k < N → parseFieldDescriptor (T k).2.2.1 = some (ty0 k)) (hnm : ∀ a, a < N → ∀ b, b < N → a ≠ b → (T a).2.1 ≠ (T b).2.1)
    (q0 : Nat) {fs : List Value} (he : ws[q0]? = some (a, .inr (ci, fs))) (hc : vwCl[ci]? = some (Cn, T, N)) (k : Nat) (hk : k < N) (hl : Cond.fieldLink own index (T k).1 (T k).2.1 (T k).2.2.1 ∈ lw_tbl) (hfin : (T k).2.2.2 = false) {x : Int32} (hd : parseFieldDescriptor (T k).2.2.1 = some .int) (hlf : k < fs.length) (hdg : decode cc pc = .ok (.putfield index, 3)) (hset : ws.set q0 (a, .inr (ci, fs.set k (.int x))) = ws')
    (kk : ∀ (H1 : Heap) (locs1 : List Loc), WW D tys ws' A s H1 locs1 → W p l e R s m args below meth c H1 locs1 0 0 Qz (F0 m (pc + 3) ls rest)) : W p l e R s m args below meth c H locs 0 0 Qz (F0 m pc ls (.int x :: .ref a :: rest)) := by
  have hlk := C.w hl rfl
  obtain ⟨hx, hb, hr, hml, hown, hts, hlocks⟩ := C
  obtain ⟨hK, hP, hD, hS, hA, hN⟩ := hw
  exact va_put (D := D) (ci := ci) (C := Cn) (T := T) (N := N) (ty := .int) hx hb hts hin ty0 hty hnm hown hK hP hD hS q0 he hc k hk hlk (fun _ h9 => h9) hfin hd rfl rfl hlf hdg (fun H1 locs1 hP hD hS => kk H1 locs1 ⟨hK, hset ▸ hP, hset ▸ hD, hS, hA, hN⟩)
theorem w_ild (C : Cx p s m args meth c own cc nL ret) (hw : WW D tys ws A s H locs) (q0 t0 : Nat) {cA : ClassId} {n : Nat} {f : Nat → Int32} (ha : ws[q0]? = some (a, .inl (cA, n, .inl f))) (ht : tys[t0]? = some (cA, .int)) {i : Int32} (hin : vp_in i n) (hdg : decode cc pc = .ok (.iaload, 1))
    (kk : W p l e R s m args below meth c H locs 0 0 Qz (F0 m (pc + 1) ls (.int (f i.toNatClampNeg) :: rest))) : W p l e R s m args below meth c H locs 0 0 Qz (F0 m pc ls (.int i :: .ref a :: rest)) :=
  va_iald C.1 C.2.1 hw.1 hw.2.1 q0 t0 ha ht hin hdg kk
theorem w_zld (C : Cx p s m args meth c own cc nL ret) (hw : WW D tys ws A s H locs) (q0 t0 : Nat) {cA : ClassId} {n : Nat} {f : Nat → Int32} (ha : ws[q0]? = some (a, .inl (cA, n, .inl f))) (ht : tys[t0]? = some (cA, .boolean)) {i : Int32} (hin : vp_in i n) (hdg : decode cc pc = .ok (.baload, 1))
    (kk : W p l e R s m args below meth c H locs 0 0 Qz (F0 m (pc + 1) ls (.int (f i.toNatClampNeg) :: rest))) : W p l e R s m args below meth c H locs 0 0 Qz (F0 m pc ls (.int i :: .ref a :: rest)) :=
  va_zald C.1 C.2.1 hw.1 hw.2.1 q0 t0 ha ht hin hdg kk
theorem w_lld (C : Cx p s m args meth c own cc nL ret) (hw : WW D tys ws A s H locs) (q0 t0 : Nat) {cA : ClassId} {n : Nat} {f : Nat → Int64} (ha : ws[q0]? = some (a, .inl (cA, n, .inr (.inl f)))) (ht : tys[t0]? = some (cA, .long)) {i : Int32} (hin : vp_in i n) (hdg : decode cc pc = .ok (.laload, 1))
    (kk : W p l e R s m args below meth c H locs 0 0 Qz (F0 m (pc + 1) ls (.long (f i.toNatClampNeg) :: rest))) : W p l e R s m args below meth c H locs 0 0 Qz (F0 m pc ls (.int i :: .ref a :: rest)) :=
  va_lald C.1 C.2.1 hw.1 hw.2.1 q0 t0 ha ht hin hdg kk
theorem w_ist (C : Cx p s m args meth c own cc nL ret) (hw : WW D tys ws A s H locs) (q0 t0 : Nat) {cA : ClassId} {n : Nat} {f : Nat → Int32} (ha : ws[q0]? = some (a, .inl (cA, n, .inl f))) (ht : tys[t0]? = some (cA, .int)) {i x : Int32} (hin : vp_in i n) (hdg : decode cc pc = .ok (.iastore, 1)) (hset : ws.set q0 (a, .inl (cA, n, .inl (upd f i.toNatClampNeg x))) = ws')
    (kk : ∀ (H1 : Heap) (locs1 : List Loc), WW D tys ws' A s H1 locs1 → W p l e R s m args below meth c H1 locs1 0 0 Qz (F0 m (pc + 1) ls rest)) : W p l e R s m args below meth c H locs 0 0 Qz (F0 m pc ls (.int x :: .int i :: .ref a :: rest)) := by
  obtain ⟨hK, hP, hD, hS, hA, hN⟩ := hw
  exact va_iast C.1 C.2.1 hK hP hD hS q0 t0 ha ht hin hdg (fun H1 locs1 hP hD hS => kk H1 locs1 ⟨hK, hset ▸ hP, hset ▸ hD, hS, hA, hN⟩)
theorem w_zst (C : Cx p s m args meth c own cc nL ret) (hw : WW D tys ws A s H locs) (q0 t0 : Nat) {cA : ClassId} {n : Nat} {f : Nat → Int32} (ha : ws[q0]? = some (a, .inl (cA, n, .inl f))) (ht : tys[t0]? = some (cA, .boolean)) {i x : Int32} (hin : vp_in i n) (hdg : decode cc pc = .ok (.bastore, 1)) (hset : ws.set q0 (a, .inl (cA, n, .inl (upd f i.toNatClampNeg (vp_nar .boolean x)))) = ws')
    (kk : ∀ (H1 : Heap) (locs1 : List Loc), WW D tys ws' A s H1 locs1 → W p l e R s m args below meth c H1 locs1 0 0 Qz (F0 m (pc + 1) ls rest)) : W p l e R s m args below meth c H locs 0 0 Qz (F0 m pc ls (.int x :: .int i :: .ref a :: rest)) := by
  obtain ⟨hK, hP, hD, hS, hA, hN⟩ := hw
  exact va_zast C.1 C.2.1 hK hP hD hS q0 t0 ha ht hin hdg (fun H1 locs1 hP hD hS => kk H1 locs1 ⟨hK, hset ▸ hP, hset ▸ hD, hS, hA, hN⟩)
theorem w_lst (C : Cx p s m args meth c own cc nL ret) (hw : WW D tys ws A s H locs) (q0 t0 : Nat) {cA : ClassId} {n : Nat} {f : Nat → Int64} (ha : ws[q0]? = some (a, .inl (cA, n, .inr (.inl f)))) (ht : tys[t0]? = some (cA, .long)) {i : Int32} {x : Int64} (hin : vp_in i n) (hdg : decode cc pc = .ok (.lastore, 1)) (hset : ws.set q0 (a, .inl (cA, n, .inr (.inl (vp_updL f i.toNatClampNeg x)))) = ws')
    (kk : ∀ (H1 : Heap) (locs1 : List Loc), WW D tys ws' A s H1 locs1 → W p l e R s m args below meth c H1 locs1 0 0 Qz (F0 m (pc + 1) ls rest)) : W p l e R s m args below meth c H locs 0 0 Qz (F0 m pc ls (.long x :: .int i :: .ref a :: rest)) := by
  obtain ⟨hK, hP, hD, hS, hA, hN⟩ := hw
  exact va_last C.1 C.2.1 hK hP hD hS q0 t0 ha ht hin hdg (fun H1 locs1 hP hD hS => kk H1 locs1 ⟨hK, hset ▸ hP, hset ▸ hD, hS, hA, hN⟩)
end ROWS
/-- what a call needs of the tables, callee by callee -/
def CalV (y : MethodName) (cc : ByteArray) (nL : Nat) (ret : Option FieldType) (n : Nat) : Prop := Cond.code y cc nL ret ∈ lw_tbl ∧ Cond.instanceMethod y ∈ lw_tbl ∧ Cond.selects y.cls y y ∈ lw_tbl ∧ Cond.initialized y.cls ∈ lw_tbl ∧ (y.cls ≠ "java/lang/invoke/MethodHandle" ∧ y.cls ≠ "java/lang/invoke/VarHandle" ∧ (parseMethodDescriptor y.desc).map (fun d => d.parameters.length) = some n)
def CalS (y : MethodName) (cc : ByteArray) (nL : Nat) (ret : Option FieldType) (n : Nat) : Prop := Cond.code y cc nL ret ∈ lw_tbl ∧ Cond.static y ∈ lw_tbl ∧ Cond.initialized y.cls ∈ lw_tbl ∧ (y.cls ≠ "java/lang/invoke/MethodHandle" ∧ y.cls ≠ "java/lang/invoke/VarHandle" ∧ (parseMethodDescriptor y.desc).map (fun d => d.parameters.length) = some n)
section CALLS
variable {p : Program} {l : Launch} {e : Env} {R : Room} {s : State} {m : MethodId} {args : Array Value} {below : List Frame} {meth : Method} {c : Code} {H : Heap} {locs : List Loc} {Qz : State → Prop} {own : String} {cc : ByteArray} {nL pc : Nat} {ret : Option FieldType} {ls : Array Slot} {rest st0 As : List Value}
  {D : va_G} {tys : List (ClassId × FieldType)} {w : MS → va_W} {ws : va_W} {A : Nat → Prop} {S : MS} {a : Nat}
  {y : MethodName} {cc' : ByteArray} {nL' n' index : Nat} {ret' : Option FieldType} {rm : Room} {Qc : Array Value → State → Outcome → State → Prop} {free : Addr → Prop}
theorem Kpre.blind {av : List Value} {sz : Nat} : FrameBlind (va_Pc av (Kpre D tys ws sz)) := fun a U g mk q => by
  obtain ⟨q0, q1, qP, qK, qD, qN⟩ := q
  exact ⟨q0, q1, qP, va_K.moved (u := U) (U := U.calling g mk a) (Vm.Alike.refl U.vm) qK, qD, nests.same (U := U.calling g mk a) rfl qN⟩
theorem Kpre.at (hw : WW D tys ws A s H locs) {av : List Value} : ∀ U : State, U.heap = H → s.WarmedH U.vm → va_Pc av (Kpre D tys ws H.size) av.toArray U := fun U hU hW => by
  obtain ⟨hK, hP, hD, hS, hA, hN⟩ := hw
  exact ⟨rfl, by rw [hU], by rw [hU]; exact hP, va_K.moved hW.alike hK, hD.weaken (fun _ _ _ _ => trivial), nests.warm hW hN⟩
theorem w_runV (C : Cx p s m args meth c own cc nL ret) (hw : WW D tys ws A s H locs) (hM : Met l y (Cond.code y cc' nL' ret' :: gw) rm (va_Pc (.ref a :: As) (Kpre D tys ws H.size)) Qc 0 0 free) (K : CalV y cc' nL' ret' n') (hl : Cond.methodLink own index y ∈ lw_tbl)
    (q0 : Nat) {ci : Nat} {fs : List Value} {qq : vw_C} (he : ws[q0]? = some (a, .inr (ci, fs))) (hc : vwCl[ci]? = some qq) (hq : qq.1 = y.cls) (hrm : rm.cells = 0 ∧ rm.slots = 0 ∧ rm.frames + 1 ≤ R.frames ∧ 8 + (nL' + 11) + rm.locals ≤ R.locals) (hst : st0 = As.reverse ++ .ref a :: rest) (hn : As.length = n') (hcat : (rest.map fun v => v.category).sum ≤ 8) (hls : ls.size = nL) (hdg : decode cc pc = .ok (.invokevirtual index, 3)) :
    va_Run p l e R s m args below meth c H locs 0 0 0 0 (F0 m pc ls st0) rest (Qc (Value.ref a :: As).toArray) free := by
  subst hst
  have ok : ∀ w : Cond, w ∈ lw_tbl → goodWord w = true → w.before args s = true := fun w h hg => C.w h hg
  obtain ⟨hx, hb, hr, hml, hown, hts, hlocks⟩ := C
  obtain ⟨k1, k2, k3, k4, k5⟩ := K
  refine va_runV (Ts := gw) (C := y.cls) (bytes := cc') (maxL := nL') (ret := ret') (n := n') ⟨hx, hb, hml, hown, hts⟩ hM ⟨callB_of n' hts (gw_GoodIn' k1) rfl hrm.1 hrm.2.1 (ok _ k4 rfl) (ok _ hl rfl) k5 hrm.2.2, ok _ k2 rfl, ok _ k3 rfl⟩ ⟨Kpre.blind, ?_, Kpre.at hw⟩ rfl hn hls rfl (lv_room hcat) hdg ⟨Nat.zero_le _, Nat.zero_le _⟩
  rw [← hq]
  exact va_recv hw.1 hw.2.1 hc he
theorem w_runS (C : Cx p s m args meth c own cc nL ret) (hw : WW D tys ws A s H locs) (hM : Met l y (Cond.code y cc' nL' ret' :: gw) rm (va_Pc As (Kpre D tys ws H.size)) Qc 0 0 free) (K : CalS y cc' nL' ret' n') (hl : Cond.methodLink own index y ∈ lw_tbl)
    (hrm : rm.cells = 0 ∧ rm.slots = 0 ∧ rm.frames + 1 ≤ R.frames ∧ 8 + (nL' + 11) + rm.locals ≤ R.locals) (hst : st0 = As.reverse ++ rest) (hn : As.length = n') (hcat : (rest.map fun v => v.category).sum ≤ 8) (hls : ls.size = nL) (hdg : decode cc pc = .ok (.invokestatic index, 3)) :
    va_Run p l e R s m args below meth c H locs 0 0 0 0 (F0 m pc ls st0) rest (Qc As.toArray) free := by
  subst hst
  have ok : ∀ w : Cond, w ∈ lw_tbl → goodWord w = true → w.before args s = true := fun w h hg => C.w h hg
  obtain ⟨hx, hb, hr, hml, hown, hts, hlocks⟩ := C
  obtain ⟨k1, k2, k4, k5⟩ := K
  exact va_runS (Ts := gw) (bytes := cc') (maxL := nL') (ret := ret') (n := n') ⟨hx, hb, hml, hown, hts⟩ hM ⟨callB_of n' hts (gw_GoodIn' k1) rfl hrm.1 hrm.2.1 (ok _ k4 rfl) (ok _ hl rfl) k5 hrm.2.2, ok _ k2 rfl⟩ ⟨Kpre.blind, Kpre.at hw⟩ rfl hn hls rfl (lv_room hcat) hdg ⟨Nat.zero_le _, Nat.zero_le _⟩
theorem w_runN {host : String} (C : Cx p s m args meth c own cc nL ret) (hw : WW D tys ws A s H locs) (hM : Met l y (Cond.code y cc' nL' ret' :: gw) rm (va_Pc As (Kpre D tys ws H.size)) Qc 0 0 free) (K : CalS y cc' nL' ret' n') (hl : (own, index, y, host) ∈ nestW)
    (hrm : rm.cells = 0 ∧ rm.slots = 0 ∧ rm.frames + 1 ≤ R.frames ∧ 8 + (nL' + 11) + rm.locals ≤ R.locals) (hst : st0 = As.reverse ++ rest) (hn : As.length = n') (hcat : (rest.map fun v => v.category).sum ≤ 8) (hls : ls.size = nL) (hdg : decode cc pc = .ok (.invokestatic index, 3)) :
    va_Run p l e R s m args below meth c H locs 0 0 0 0 (F0 m pc ls st0) rest (Qc As.toArray) free := by
  subst hst
  have ok : ∀ w : Cond, w ∈ lw_tbl → goodWord w = true → w.before args s = true := fun w h hg => C.w h hg
  obtain ⟨hx, hb, hr, hml, hown, hts, hlocks⟩ := C
  obtain ⟨k1, k2, k4, k5⟩ := K
  exact va_runSN (Ts := gw) (bytes := cc') (maxL := nL') (ret := ret') (n := n') ⟨hx, hb, hml, hown, hts⟩ hM ⟨va_cnB n' hts (gw_GoodIn' k1) rfl hrm.1 hrm.2.1 (hw.2.2.2.2.2 _ hl) (ok _ k4 rfl) k5 hrm.2.2, ok _ k2 rfl, trivial⟩ ⟨Kpre.blind, Kpre.at hw⟩ rfl hn hls rfl (lv_room hcat) hdg ⟨Nat.zero_le _, Nat.zero_le _⟩
theorem va_free' (hw : WW D tys ws A s H locs) : ∀ q : Nat, va_A ws H.size q → A q := fun q h => by
  obtain ⟨hK, hP, hD, hS, hA, hN⟩ := hw
  rcases h with ⟨k, e, h⟩ | h
  · exact hD.2 k _ h
  · exact hA q (Nat.le_trans hS.1 h)
theorem w_calli {Q : Int32 → MS → Prop} {av : Array Value} (hw : WW D tys (w S) A s H locs) (hr : va_Run p l e R s m args below meth c H locs 0 0 0 0 (F0 m pc ls st0) rest (va_Qi Q (Kpost D tys w (va_A (w S) H.size)) (va_A (w S) H.size) av) (va_A (w S) H.size))
    (kk : ∀ (r : Int32) (S' : MS) (H1 : Heap) (locs1 : List Loc), Q r S' → WW D tys (w S') A s H1 locs1 → W p l e R s m args below meth c H1 locs1 0 0 Qz (F0 m (pc + 3) ls (.int r :: rest))) : W p l e R s m args below meth c H locs 0 0 Qz (F0 m pc ls st0) := by
  have hF := va_free' hw
  obtain ⟨hK, hP, hD, hS, hA, hN⟩ := hw
  refine va_calli hr hS (fun q _ h => hF q h) hF (fun r u t H1 locs1 ht hvm hq hB hz hk hS1 => ?_)
  obtain ⟨bP, bK, bD⟩ := hB
  exact kk r u H1 locs1 hq ⟨hK, ht ▸ bP, bD.weaken (fun _ _ _ h => hF _ h), hS1, hA, hN⟩
theorem w_calll {Q : Int64 → MS → Prop} {av : Array Value} (hw : WW D tys (w S) A s H locs) (hr : va_Run p l e R s m args below meth c H locs 0 0 0 0 (F0 m pc ls st0) rest (va_Ql Q (Kpost D tys w (va_A (w S) H.size)) (va_A (w S) H.size) av) (va_A (w S) H.size))
    (kk : ∀ (r : Int64) (S' : MS) (H1 : Heap) (locs1 : List Loc), Q r S' → WW D tys (w S') A s H1 locs1 → W p l e R s m args below meth c H1 locs1 0 0 Qz (F0 m (pc + 3) ls (.long r :: rest))) : W p l e R s m args below meth c H locs 0 0 Qz (F0 m pc ls st0) := by
  have hF := va_free' hw
  obtain ⟨hK, hP, hD, hS, hA, hN⟩ := hw
  refine va_calll hr hS (fun q _ h => hF q h) hF (fun r u t H1 locs1 ht hvm hq hB hz hk hS1 => ?_)
  obtain ⟨bP, bK, bD⟩ := hB
  exact kk r u H1 locs1 hq ⟨hK, ht ▸ bP, bD.weaken (fun _ _ _ h => hF _ h), hS1, hA, hN⟩
theorem w_callv {Q : MS → Prop} {av : Array Value} (hw : WW D tys (w S) A s H locs) (hr : va_Run p l e R s m args below meth c H locs 0 0 0 0 (F0 m pc ls st0) rest (va_Qv Q (Kpost D tys w (va_A (w S) H.size)) (va_A (w S) H.size) av) (va_A (w S) H.size))
    (kk : ∀ (S' : MS) (H1 : Heap) (locs1 : List Loc), Q S' → WW D tys (w S') A s H1 locs1 → W p l e R s m args below meth c H1 locs1 0 0 Qz (F0 m (pc + 3) ls rest)) : W p l e R s m args below meth c H locs 0 0 Qz (F0 m pc ls st0) := by
  have hF := va_free' hw
  obtain ⟨hK, hP, hD, hS, hA, hN⟩ := hw
  refine va_callv hr hS (fun q _ h => hF q h) hF (fun u t H1 locs1 ht hvm hq hB hz hk hS1 => ?_)
  obtain ⟨bP, bK, bD⟩ := hB
  exact kk u H1 locs1 hq ⟨hK, ht ▸ bP, bD.weaken (fun _ _ _ h => hF _ h), hS1, hA, hN⟩
end CALLS
end
section
section COPY
variable {p : Program} {l : Launch} {e : Env} {R : Room} {s : State} {m : MethodId} {args : Array Value} {below : List Frame} {meth : Method} {c : Code} {H : Heap} {locs : List Loc} {Qz : State → Prop} {own : String} {cc : ByteArray} {nL pc : Nat} {ret : Option FieldType} {ls : Array Slot} {rest : List Value}
  {D : va_G} {tys : List (ClassId × FieldType)} {ws ws' : va_W} {A : Nat → Prop} {a : Nat}
theorem w_copyl {index : Nat} (C : Cx p s m args meth c own cc nL ret) (hw : WW D tys ws A s H locs) (q0 q1 t0 t1 : Nat) {a0 : Nat} {c0 c1 : ClassId} {n0 n1 : Nat} {f g : Nat → Int64} (ha0 : ws[q0]? = some (a0, .inl (c0, n0, .inr (.inl f)))) (ha1 : ws[q1]? = some (a, .inl (c1, n1, .inr (.inl g)))) (ht0 : tys[t0]? = some (c0, .long)) (ht1 : tys[t1]? = some (c1, .long))
    (hlink : (Cond.methodLink own index arraycopyName).before args s = true) (hnat : (Cond.native arraycopyName).before args s = true) (hstat : (Cond.static arraycopyName).before args s = true) (hini : (Cond.initialized "java/lang/System").before args s = true)
    {n : Int32} (h3 : ¬ n < 0) (h4 : n.toNatClampNeg ≤ n0) (h5 : n.toNatClampNeg ≤ n1) (hls : ls.size = nL) (hframes : 1 ≤ R.frames) (hlocals : (rest.map fun v => v.category).sum + (nativeFrameWords "java/lang/System" "arraycopy" 5 + 11) ≤ R.locals) (hdg : decode cc pc = .ok (.invokestatic index, 3)) (hset : ws.set q1 (a, .inl (c1, n1, .inr (.inl (va_cpy f g 0 0 n.toNatClampNeg)))) = ws')
    (kk : ∀ (H1 : Heap) (locs1 : List Loc), WW D tys ws' A s H1 locs1 → W p l e R s m args below meth c H1 locs1 0 0 Qz (F0 m (pc + 3) ls rest)) : W p l e R s m args below meth c H locs 0 0 Qz (F0 m pc ls (.int n :: .int 0 :: .ref a :: .int 0 :: .ref a0 :: rest)) := by
  obtain ⟨hK, hP, hD, hS, hA, hN⟩ := hw
  have e0 : (0 : Int32).toNatClampNeg = 0 := by decide
  refine va_copyl C.1 C.2.1 (C.2.2.2.1.trans hls.symm) C.2.2.2.2.1 hlink hnat hstat hini hK hP hD hS q0 q1 t0 t1 ha0 ha1 ht0 ht1 rfl (by decide) (by decide) h3 (by rw [e0, Nat.zero_add]; exact h4) (by rw [e0, Nat.zero_add]; exact h5) (fun _ _ => rfl) hframes hlocals hdg (fun H1 locs1 hP hD hS => kk H1 locs1 ⟨hK, ?_, ?_, hS, hA, hN⟩)
  · rw [e0] at hP; exact hset ▸ hP
  · rw [e0] at hD; exact hset ▸ hD
end COPY
end
section
theorem uw_of (ws : List Cond) (ps : List Nat) (hp : ws = ps.filterMap (fun i => lw_tbl[i]?)) (h : ws.all goodWord = true) : ∀ w ∈ ws, w ∈ gw := by
  intro w hw
  have h1 := List.all_eq_true.mp h w hw
  rw [hp] at hw
  obtain ⟨i, -, hi⟩ := List.mem_filterMap.mp hw
  exact gw_in (List.mem_of_getElem? hi) h1
theorem uw_X0 : ∀ w ∈ u_ws RX0 TX0 3, w ∈ gw := uw_of _ [95, 97, 99] (by decide +kernel) (by decide +kernel)
theorem uw_X1 : ∀ w ∈ u_ws RX1 TX1 9, w ∈ gw := uw_of _ [142, 144, 146, 148, 150, 152, 154, 156, 158] (by decide +kernel) (by decide +kernel)
theorem uw_X2 : ∀ w ∈ u_ws RX2 TX2 9, w ∈ gw := uw_of _ [65, 67, 69, 71, 73, 75, 77, 79, 81] (by decide +kernel) (by decide +kernel)
theorem uw_X3 : ∀ w ∈ u_ws RX3 TX3 6, w ∈ gw := uw_of _ [173, 175, 177, 179, 181, 183] (by decide +kernel) (by decide +kernel)
theorem uw_X4 : ∀ w ∈ u_ws RX4 TX4 6, w ∈ gw := uw_of _ [114, 116, 118, 120, 122, 124] (by decide +kernel) (by decide +kernel)
theorem uw_X5 : ∀ w ∈ u_ws RX5 TX5 6, w ∈ gw := uw_of _ [192, 194, 196, 198, 200, 202] (by decide +kernel) (by decide +kernel)
theorem uw_X6 : ∀ w ∈ u_ws RX6 TX6 26, w ∈ gw := uw_of _ [607, 609, 611, 613, 615, 617, 619, 621, 623, 625, 627, 629, 631, 633, 635, 637, 639, 641, 643, 645, 647, 649, 651, 653, 655, 657] (by decide +kernel) (by decide +kernel)
theorem fl_X0_9 : Cond.fieldLink RX0 9 (TX0 0).1 (TX0 0).2.1 (TX0 0).2.2.1 ∈ lw_tbl := List.mem_of_getElem? (i := 92) (by decide +kernel)
theorem fl_X0_15 : Cond.fieldLink RX0 15 (TX0 1).1 (TX0 1).2.1 (TX0 1).2.2.1 ∈ lw_tbl := List.mem_of_getElem? (i := 93) (by decide +kernel)
theorem fl_X0_18 : Cond.fieldLink RX0 18 (TX0 2).1 (TX0 2).2.1 (TX0 2).2.2.1 ∈ lw_tbl := List.mem_of_getElem? (i := 94) (by decide +kernel)
theorem fl_X1_9 : Cond.fieldLink RX1 9 (TX1 3).1 (TX1 3).2.1 (TX1 3).2.2.1 ∈ lw_tbl := List.mem_of_getElem? (i := 136) (by decide +kernel)
theorem fl_X1_15 : Cond.fieldLink RX1 15 (TX1 4).1 (TX1 4).2.1 (TX1 4).2.2.1 ∈ lw_tbl := List.mem_of_getElem? (i := 137) (by decide +kernel)
theorem fl_X1_18 : Cond.fieldLink RX1 18 (TX1 5).1 (TX1 5).2.1 (TX1 5).2.2.1 ∈ lw_tbl := List.mem_of_getElem? (i := 138) (by decide +kernel)
theorem fl_X1_22 : Cond.fieldLink RX1 22 (TX1 6).1 (TX1 6).2.1 (TX1 6).2.2.1 ∈ lw_tbl := List.mem_of_getElem? (i := 139) (by decide +kernel)
theorem fl_X1_25 : Cond.fieldLink RX1 25 (TX1 7).1 (TX1 7).2.1 (TX1 7).2.2.1 ∈ lw_tbl := List.mem_of_getElem? (i := 140) (by decide +kernel)
theorem fl_X1_29 : Cond.fieldLink RX1 29 (TX1 8).1 (TX1 8).2.1 (TX1 8).2.2.1 ∈ lw_tbl := List.mem_of_getElem? (i := 141) (by decide +kernel)
theorem fl_X1_32 : Cond.fieldLink RX1 32 (TX1 0).1 (TX1 0).2.1 (TX1 0).2.2.1 ∈ lw_tbl := List.mem_of_getElem? (i := 133) (by decide +kernel)
theorem fl_X1_36 : Cond.fieldLink RX1 36 (TX1 1).1 (TX1 1).2.1 (TX1 1).2.2.1 ∈ lw_tbl := List.mem_of_getElem? (i := 134) (by decide +kernel)
theorem fl_X1_40 : Cond.fieldLink RX1 40 (TX1 2).1 (TX1 2).2.1 (TX1 2).2.2.1 ∈ lw_tbl := List.mem_of_getElem? (i := 135) (by decide +kernel)
theorem fl_X2_9 : Cond.fieldLink RX2 9 (TX2 0).1 (TX2 0).2.1 (TX2 0).2.2.1 ∈ lw_tbl := List.mem_of_getElem? (i := 56) (by decide +kernel)
theorem fl_X2_15 : Cond.fieldLink RX2 15 (TX2 1).1 (TX2 1).2.1 (TX2 1).2.2.1 ∈ lw_tbl := List.mem_of_getElem? (i := 57) (by decide +kernel)
theorem fl_X2_18 : Cond.fieldLink RX2 18 (TX2 2).1 (TX2 2).2.1 (TX2 2).2.2.1 ∈ lw_tbl := List.mem_of_getElem? (i := 58) (by decide +kernel)
theorem fl_X2_21 : Cond.fieldLink RX2 21 (TX2 3).1 (TX2 3).2.1 (TX2 3).2.2.1 ∈ lw_tbl := List.mem_of_getElem? (i := 59) (by decide +kernel)
theorem fl_X2_24 : Cond.fieldLink RX2 24 (TX2 4).1 (TX2 4).2.1 (TX2 4).2.2.1 ∈ lw_tbl := List.mem_of_getElem? (i := 60) (by decide +kernel)
theorem fl_X2_27 : Cond.fieldLink RX2 27 (TX2 5).1 (TX2 5).2.1 (TX2 5).2.2.1 ∈ lw_tbl := List.mem_of_getElem? (i := 61) (by decide +kernel)
theorem fl_X2_30 : Cond.fieldLink RX2 30 (TX2 6).1 (TX2 6).2.1 (TX2 6).2.2.1 ∈ lw_tbl := List.mem_of_getElem? (i := 62) (by decide +kernel)
theorem fl_X2_34 : Cond.fieldLink RX2 34 (TX2 7).1 (TX2 7).2.1 (TX2 7).2.2.1 ∈ lw_tbl := List.mem_of_getElem? (i := 63) (by decide +kernel)
theorem fl_X2_38 : Cond.fieldLink RX2 38 (TX2 8).1 (TX2 8).2.1 (TX2 8).2.2.1 ∈ lw_tbl := List.mem_of_getElem? (i := 64) (by decide +kernel)
theorem fl_X3_9 : Cond.fieldLink RX3 9 (TX3 2).1 (TX3 2).2.1 (TX3 2).2.2.1 ∈ lw_tbl := List.mem_of_getElem? (i := 169) (by decide +kernel)
theorem fl_X3_15 : Cond.fieldLink RX3 15 (TX3 3).1 (TX3 3).2.1 (TX3 3).2.2.1 ∈ lw_tbl := List.mem_of_getElem? (i := 170) (by decide +kernel)
theorem fl_X3_18 : Cond.fieldLink RX3 18 (TX3 4).1 (TX3 4).2.1 (TX3 4).2.2.1 ∈ lw_tbl := List.mem_of_getElem? (i := 171) (by decide +kernel)
theorem fl_X3_22 : Cond.fieldLink RX3 22 (TX3 5).1 (TX3 5).2.1 (TX3 5).2.2.1 ∈ lw_tbl := List.mem_of_getElem? (i := 172) (by decide +kernel)
theorem fl_X3_25 : Cond.fieldLink RX3 25 (TX3 0).1 (TX3 0).2.1 (TX3 0).2.2.1 ∈ lw_tbl := List.mem_of_getElem? (i := 167) (by decide +kernel)
theorem fl_X3_29 : Cond.fieldLink RX3 29 (TX3 1).1 (TX3 1).2.1 (TX3 1).2.2.1 ∈ lw_tbl := List.mem_of_getElem? (i := 168) (by decide +kernel)
theorem fl_X4_9 : Cond.fieldLink RX4 9 (TX4 0).1 (TX4 0).2.1 (TX4 0).2.2.1 ∈ lw_tbl := List.mem_of_getElem? (i := 108) (by decide +kernel)
theorem fl_X4_15 : Cond.fieldLink RX4 15 (TX4 1).1 (TX4 1).2.1 (TX4 1).2.2.1 ∈ lw_tbl := List.mem_of_getElem? (i := 109) (by decide +kernel)
theorem fl_X4_18 : Cond.fieldLink RX4 18 (TX4 2).1 (TX4 2).2.1 (TX4 2).2.2.1 ∈ lw_tbl := List.mem_of_getElem? (i := 110) (by decide +kernel)
theorem fl_X4_21 : Cond.fieldLink RX4 21 (TX4 3).1 (TX4 3).2.1 (TX4 3).2.2.1 ∈ lw_tbl := List.mem_of_getElem? (i := 111) (by decide +kernel)
theorem fl_X4_24 : Cond.fieldLink RX4 24 (TX4 4).1 (TX4 4).2.1 (TX4 4).2.2.1 ∈ lw_tbl := List.mem_of_getElem? (i := 112) (by decide +kernel)
theorem fl_X4_28 : Cond.fieldLink RX4 28 (TX4 5).1 (TX4 5).2.1 (TX4 5).2.2.1 ∈ lw_tbl := List.mem_of_getElem? (i := 113) (by decide +kernel)
theorem fl_X5_10 : Cond.fieldLink RX5 10 (TX5 0).1 (TX5 0).2.1 (TX5 0).2.2.1 ∈ lw_tbl := List.mem_of_getElem? (i := 186) (by decide +kernel)
theorem fl_X5_19 : Cond.fieldLink RX5 19 (TX5 1).1 (TX5 1).2.1 (TX5 1).2.2.1 ∈ lw_tbl := List.mem_of_getElem? (i := 187) (by decide +kernel)
theorem fl_X5_26 : Cond.fieldLink RX5 26 (TX5 2).1 (TX5 2).2.1 (TX5 2).2.2.1 ∈ lw_tbl := List.mem_of_getElem? (i := 188) (by decide +kernel)
theorem fl_X5_35 : Cond.fieldLink RX5 35 (TX5 3).1 (TX5 3).2.1 (TX5 3).2.2.1 ∈ lw_tbl := List.mem_of_getElem? (i := 189) (by decide +kernel)
theorem fl_X5_44 : Cond.fieldLink RX5 44 (TX5 4).1 (TX5 4).2.1 (TX5 4).2.2.1 ∈ lw_tbl := List.mem_of_getElem? (i := 190) (by decide +kernel)
theorem fl_X5_48 : Cond.fieldLink RX5 48 (TX5 5).1 (TX5 5).2.1 (TX5 5).2.2.1 ∈ lw_tbl := List.mem_of_getElem? (i := 191) (by decide +kernel)
theorem fl_X6_7 : Cond.fieldLink RX6 7 (TX6 1).1 (TX6 1).2.1 (TX6 1).2.2.1 ∈ lw_tbl := List.mem_of_getElem? (i := 582) (by decide +kernel)
theorem fl_X6_13 : Cond.fieldLink RX6 13 (TX6 2).1 (TX6 2).2.1 (TX6 2).2.2.1 ∈ lw_tbl := List.mem_of_getElem? (i := 583) (by decide +kernel)
theorem fl_X6_16 : Cond.fieldLink RX6 16 (TX6 3).1 (TX6 3).2.1 (TX6 3).2.2.1 ∈ lw_tbl := List.mem_of_getElem? (i := 584) (by decide +kernel)
theorem fl_X6_19 : Cond.fieldLink RX6 19 (TX6 4).1 (TX6 4).2.1 (TX6 4).2.2.1 ∈ lw_tbl := List.mem_of_getElem? (i := 585) (by decide +kernel)
theorem fl_X6_22 : Cond.fieldLink RX6 22 (TX6 5).1 (TX6 5).2.1 (TX6 5).2.2.1 ∈ lw_tbl := List.mem_of_getElem? (i := 586) (by decide +kernel)
theorem fl_X6_25 : Cond.fieldLink RX6 25 (TX6 6).1 (TX6 6).2.1 (TX6 6).2.2.1 ∈ lw_tbl := List.mem_of_getElem? (i := 587) (by decide +kernel)
theorem fl_X6_28 : Cond.fieldLink RX6 28 (TX6 7).1 (TX6 7).2.1 (TX6 7).2.2.1 ∈ lw_tbl := List.mem_of_getElem? (i := 588) (by decide +kernel)
theorem fl_X6_31 : Cond.fieldLink RX6 31 (TX6 8).1 (TX6 8).2.1 (TX6 8).2.2.1 ∈ lw_tbl := List.mem_of_getElem? (i := 589) (by decide +kernel)
theorem fl_X6_34 : Cond.fieldLink RX6 34 (TX6 10).1 (TX6 10).2.1 (TX6 10).2.2.1 ∈ lw_tbl := List.mem_of_getElem? (i := 591) (by decide +kernel)
theorem fl_X6_37 : Cond.fieldLink RX6 37 (TX6 11).1 (TX6 11).2.1 (TX6 11).2.2.1 ∈ lw_tbl := List.mem_of_getElem? (i := 592) (by decide +kernel)
theorem fl_X6_40 : Cond.fieldLink RX6 40 (TX6 12).1 (TX6 12).2.1 (TX6 12).2.2.1 ∈ lw_tbl := List.mem_of_getElem? (i := 593) (by decide +kernel)
theorem fl_X6_43 : Cond.fieldLink RX6 43 (TX6 14).1 (TX6 14).2.1 (TX6 14).2.2.1 ∈ lw_tbl := List.mem_of_getElem? (i := 595) (by decide +kernel)
theorem fl_X6_46 : Cond.fieldLink RX6 46 (TX6 15).1 (TX6 15).2.1 (TX6 15).2.2.1 ∈ lw_tbl := List.mem_of_getElem? (i := 596) (by decide +kernel)
theorem fl_X6_49 : Cond.fieldLink RX6 49 (TX6 17).1 (TX6 17).2.1 (TX6 17).2.2.1 ∈ lw_tbl := List.mem_of_getElem? (i := 598) (by decide +kernel)
theorem fl_X6_52 : Cond.fieldLink RX6 52 (TX6 18).1 (TX6 18).2.1 (TX6 18).2.2.1 ∈ lw_tbl := List.mem_of_getElem? (i := 599) (by decide +kernel)
theorem fl_X6_55 : Cond.fieldLink RX6 55 (TX6 19).1 (TX6 19).2.1 (TX6 19).2.2.1 ∈ lw_tbl := List.mem_of_getElem? (i := 600) (by decide +kernel)
theorem fl_X6_58 : Cond.fieldLink RX6 58 (TX6 20).1 (TX6 20).2.1 (TX6 20).2.2.1 ∈ lw_tbl := List.mem_of_getElem? (i := 601) (by decide +kernel)
theorem fl_X6_61 : Cond.fieldLink RX6 61 (TX6 21).1 (TX6 21).2.1 (TX6 21).2.2.1 ∈ lw_tbl := List.mem_of_getElem? (i := 602) (by decide +kernel)
theorem fl_X6_65 : Cond.fieldLink RX6 65 (TX6 23).1 (TX6 23).2.1 (TX6 23).2.2.1 ∈ lw_tbl := List.mem_of_getElem? (i := 604) (by decide +kernel)
theorem fl_X6_68 : Cond.fieldLink RX6 68 (TX6 24).1 (TX6 24).2.1 (TX6 24).2.2.1 ∈ lw_tbl := List.mem_of_getElem? (i := 605) (by decide +kernel)
theorem fl_X6_71 : Cond.fieldLink RX6 71 (TX6 25).1 (TX6 25).2.1 (TX6 25).2.2.1 ∈ lw_tbl := List.mem_of_getElem? (i := 606) (by decide +kernel)
theorem fl_X6_74 : Cond.fieldLink RX6 74 (TX6 0).1 (TX6 0).2.1 (TX6 0).2.2.1 ∈ lw_tbl := List.mem_of_getElem? (i := 581) (by decide +kernel)
theorem fl_X6_82 : Cond.fieldLink RX6 82 (TX6 16).1 (TX6 16).2.1 (TX6 16).2.2.1 ∈ lw_tbl := List.mem_of_getElem? (i := 597) (by decide +kernel)
theorem fl_X6_100 : Cond.fieldLink RX6 100 (TX6 9).1 (TX6 9).2.1 (TX6 9).2.2.1 ∈ lw_tbl := List.mem_of_getElem? (i := 590) (by decide +kernel)
theorem fl_X6_110 : Cond.fieldLink RX6 110 (TX6 13).1 (TX6 13).2.1 (TX6 13).2.2.1 ∈ lw_tbl := List.mem_of_getElem? (i := 594) (by decide +kernel)
theorem fl_X6_138 : Cond.fieldLink RX6 138 (TX6 22).1 (TX6 22).2.1 (TX6 22).2.2.1 ∈ lw_tbl := List.mem_of_getElem? (i := 603) (by decide +kernel)
theorem kc_X0_init : Cond.code yX0_init cX0_init 1 none ∈ lw_tbl ∧ Cond.instanceMethod yX0_init ∈ lw_tbl ∧ Cond.initialized yX0_init.cls ∈ lw_tbl := ⟨List.mem_of_getElem? (i := 90) (by decide +kernel), List.mem_of_getElem? (i := 89) (by decide +kernel), List.mem_of_getElem? (i := 33) (by decide +kernel)⟩
theorem kc_X0_size : CalV yX0_size cX0_size 1 (some .int) 0 := ⟨List.mem_of_getElem? (i := 411) (by decide +kernel), List.mem_of_getElem? (i := 409) (by decide +kernel), List.mem_of_getElem? (i := 410) (by decide +kernel), List.mem_of_getElem? (i := 33) (by decide +kernel), ⟨by decide +kernel, by decide +kernel, by decide +kernel⟩⟩
theorem kc_X0_add : CalV yX0_add cX0_add 3 (some .int) 2 := ⟨List.mem_of_getElem? (i := 295) (by decide +kernel), List.mem_of_getElem? (i := 293) (by decide +kernel), List.mem_of_getElem? (i := 294) (by decide +kernel), List.mem_of_getElem? (i := 33) (by decide +kernel), ⟨by decide +kernel, by decide +kernel, by decide +kernel⟩⟩
theorem kc_X0_shareOf : CalV yX0_shareOf cX0_shareOf 2 (some .int) 1 := ⟨List.mem_of_getElem? (i := 420) (by decide +kernel), List.mem_of_getElem? (i := 418) (by decide +kernel), List.mem_of_getElem? (i := 419) (by decide +kernel), List.mem_of_getElem? (i := 33) (by decide +kernel), ⟨by decide +kernel, by decide +kernel, by decide +kernel⟩⟩
theorem kc_X0_struckBy : CalV yX0_struckBy cX0_struckBy 2 (some .int) 1 := ⟨List.mem_of_getElem? (i := 415) (by decide +kernel), List.mem_of_getElem? (i := 413) (by decide +kernel), List.mem_of_getElem? (i := 414) (by decide +kernel), List.mem_of_getElem? (i := 33) (by decide +kernel), ⟨by decide +kernel, by decide +kernel, by decide +kernel⟩⟩
theorem kc_X0_striking : CalV yX0_striking cX0_striking 4 (some .int) 1 := ⟨List.mem_of_getElem? (i := 375) (by decide +kernel), List.mem_of_getElem? (i := 373) (by decide +kernel), List.mem_of_getElem? (i := 374) (by decide +kernel), List.mem_of_getElem? (i := 33) (by decide +kernel), ⟨by decide +kernel, by decide +kernel, by decide +kernel⟩⟩
theorem kc_X1_init : Cond.code yX1_init cX1_init 4 none ∈ lw_tbl ∧ Cond.instanceMethod yX1_init ∈ lw_tbl ∧ Cond.initialized yX1_init.cls ∈ lw_tbl := ⟨List.mem_of_getElem? (i := 131) (by decide +kernel), List.mem_of_getElem? (i := 130) (by decide +kernel), List.mem_of_getElem? (i := 35) (by decide +kernel)⟩
theorem kc_X1_groupsOf : CalV yX1_groupsOf cX1_groupsOf 2 (some .int) 1 := ⟨List.mem_of_getElem? (i := 370) (by decide +kernel), List.mem_of_getElem? (i := 368) (by decide +kernel), List.mem_of_getElem? (i := 369) (by decide +kernel), List.mem_of_getElem? (i := 35) (by decide +kernel), ⟨by decide +kernel, by decide +kernel, by decide +kernel⟩⟩
theorem kc_X1_eventsOf : CalV yX1_eventsOf cX1_eventsOf 2 (some .int) 1 := ⟨List.mem_of_getElem? (i := 379) (by decide +kernel), List.mem_of_getElem? (i := 377) (by decide +kernel), List.mem_of_getElem? (i := 378) (by decide +kernel), List.mem_of_getElem? (i := 35) (by decide +kernel), ⟨by decide +kernel, by decide +kernel, by decide +kernel⟩⟩
theorem kc_X1_hasTooManyEvents : CalV yX1_hasTooManyEvents cX1_hasTooManyEvents 2 (some .boolean) 1 := ⟨List.mem_of_getElem? (i := 395) (by decide +kernel), List.mem_of_getElem? (i := 393) (by decide +kernel), List.mem_of_getElem? (i := 394) (by decide +kernel), List.mem_of_getElem? (i := 35) (by decide +kernel), ⟨by decide +kernel, by decide +kernel, by decide +kernel⟩⟩
theorem kc_X1_startFailing : CalV yX1_startFailing cX1_startFailing 5 none 1 := ⟨List.mem_of_getElem? (i := 401) (by decide +kernel), List.mem_of_getElem? (i := 399) (by decide +kernel), List.mem_of_getElem? (i := 400) (by decide +kernel), List.mem_of_getElem? (i := 35) (by decide +kernel), ⟨by decide +kernel, by decide +kernel, by decide +kernel⟩⟩
theorem kc_X1_onDay : CalV yX1_onDay cX1_onDay 2 (some .long) 1 := ⟨List.mem_of_getElem? (i := 429) (by decide +kernel), List.mem_of_getElem? (i := 427) (by decide +kernel), List.mem_of_getElem? (i := 428) (by decide +kernel), List.mem_of_getElem? (i := 35) (by decide +kernel), ⟨by decide +kernel, by decide +kernel, by decide +kernel⟩⟩
theorem kc_X1_forNothing : CalV yX1_forNothing cX1_forNothing 4 (some .long) 1 := ⟨List.mem_of_getElem? (i := 462) (by decide +kernel), List.mem_of_getElem? (i := 460) (by decide +kernel), List.mem_of_getElem? (i := 461) (by decide +kernel), List.mem_of_getElem? (i := 35) (by decide +kernel), ⟨by decide +kernel, by decide +kernel, by decide +kernel⟩⟩
theorem kc_X1_weightOf : CalV yX1_weightOf cX1_weightOf 4 (some .long) 2 := ⟨List.mem_of_getElem? (i := 474) (by decide +kernel), List.mem_of_getElem? (i := 472) (by decide +kernel), List.mem_of_getElem? (i := 473) (by decide +kernel), List.mem_of_getElem? (i := 35) (by decide +kernel), ⟨by decide +kernel, by decide +kernel, by decide +kernel⟩⟩
theorem kc_X1_weightiestPart : CalV yX1_weightiestPart cX1_weightiestPart 8 (some .int) 1 := ⟨List.mem_of_getElem? (i := 486) (by decide +kernel), List.mem_of_getElem? (i := 484) (by decide +kernel), List.mem_of_getElem? (i := 485) (by decide +kernel), List.mem_of_getElem? (i := 35) (by decide +kernel), ⟨by decide +kernel, by decide +kernel, by decide +kernel⟩⟩
theorem kc_X1_memberCount : CalV yX1_memberCount cX1_memberCount 1 (some .int) 0 := ⟨List.mem_of_getElem? (i := 515) (by decide +kernel), List.mem_of_getElem? (i := 513) (by decide +kernel), List.mem_of_getElem? (i := 514) (by decide +kernel), List.mem_of_getElem? (i := 35) (by decide +kernel), ⟨by decide +kernel, by decide +kernel, by decide +kernel⟩⟩
theorem kc_X1_memberAt : CalV yX1_memberAt cX1_memberAt 2 (some .int) 1 := ⟨List.mem_of_getElem? (i := 527) (by decide +kernel), List.mem_of_getElem? (i := 525) (by decide +kernel), List.mem_of_getElem? (i := 526) (by decide +kernel), List.mem_of_getElem? (i := 35) (by decide +kernel), ⟨by decide +kernel, by decide +kernel, by decide +kernel⟩⟩
theorem kc_X1_setShare : CalV yX1_setShare cX1_setShare 3 none 2 := ⟨List.mem_of_getElem? (i := 540) (by decide +kernel), List.mem_of_getElem? (i := 538) (by decide +kernel), List.mem_of_getElem? (i := 539) (by decide +kernel), List.mem_of_getElem? (i := 35) (by decide +kernel), ⟨by decide +kernel, by decide +kernel, by decide +kernel⟩⟩
theorem kc_X1_sum : CalV yX1_sum cX1_sum 6 (some .long) 0 := ⟨List.mem_of_getElem? (i := 438) (by decide +kernel), List.mem_of_getElem? (i := 436) (by decide +kernel), List.mem_of_getElem? (i := 437) (by decide +kernel), List.mem_of_getElem? (i := 35) (by decide +kernel), ⟨by decide +kernel, by decide +kernel, by decide +kernel⟩⟩
theorem kc_X1_takeMembers : CalV yX1_takeMembers cX1_takeMembers 3 none 1 := ⟨List.mem_of_getElem? (i := 405) (by decide +kernel), List.mem_of_getElem? (i := 404) (by decide +kernel), List.mem_of_getElem? (i := 6) (by decide +kernel), List.mem_of_getElem? (i := 35) (by decide +kernel), ⟨by decide +kernel, by decide +kernel, by decide +kernel⟩⟩
theorem kc_X1_workIn : CalV yX1_workIn cX1_workIn 6 none 2 := ⟨List.mem_of_getElem? (i := 424) (by decide +kernel), List.mem_of_getElem? (i := 423) (by decide +kernel), List.mem_of_getElem? (i := 7) (by decide +kernel), List.mem_of_getElem? (i := 35) (by decide +kernel), ⟨by decide +kernel, by decide +kernel, by decide +kernel⟩⟩
theorem kc_X1_takeSharesOn : CalV yX1_takeSharesOn cX1_takeSharesOn 3 none 1 := ⟨List.mem_of_getElem? (i := 433) (by decide +kernel), List.mem_of_getElem? (i := 432) (by decide +kernel), List.mem_of_getElem? (i := 8) (by decide +kernel), List.mem_of_getElem? (i := 35) (by decide +kernel), ⟨by decide +kernel, by decide +kernel, by decide +kernel⟩⟩
theorem kc_X1_weightAt : CalV yX1_weightAt cX1_weightAt 7 (some .long) 1 := ⟨List.mem_of_getElem? (i := 478) (by decide +kernel), List.mem_of_getElem? (i := 477) (by decide +kernel), List.mem_of_getElem? (i := 9) (by decide +kernel), List.mem_of_getElem? (i := 35) (by decide +kernel), ⟨by decide +kernel, by decide +kernel, by decide +kernel⟩⟩
theorem kc_X2_init : Cond.code yX2_init cX2_init 1 none ∈ lw_tbl ∧ Cond.instanceMethod yX2_init ∈ lw_tbl ∧ Cond.initialized yX2_init.cls ∈ lw_tbl := ⟨List.mem_of_getElem? (i := 54) (by decide +kernel), List.mem_of_getElem? (i := 53) (by decide +kernel), List.mem_of_getElem? (i := 32) (by decide +kernel)⟩
theorem kc_X2_has : CalV yX2_has cX2_has 2 (some .boolean) 1 := ⟨List.mem_of_getElem? (i := 223) (by decide +kernel), List.mem_of_getElem? (i := 221) (by decide +kernel), List.mem_of_getElem? (i := 222) (by decide +kernel), List.mem_of_getElem? (i := 32) (by decide +kernel), ⟨by decide +kernel, by decide +kernel, by decide +kernel⟩⟩
theorem kc_X2_hasAll : CalV yX2_hasAll cX2_hasAll 2 (some .boolean) 1 := ⟨List.mem_of_getElem? (i := 285) (by decide +kernel), List.mem_of_getElem? (i := 283) (by decide +kernel), List.mem_of_getElem? (i := 284) (by decide +kernel), List.mem_of_getElem? (i := 32) (by decide +kernel), ⟨by decide +kernel, by decide +kernel, by decide +kernel⟩⟩
theorem kc_X2_size : CalV yX2_size cX2_size 1 (some .int) 0 := ⟨List.mem_of_getElem? (i := 561) (by decide +kernel), List.mem_of_getElem? (i := 559) (by decide +kernel), List.mem_of_getElem? (i := 560) (by decide +kernel), List.mem_of_getElem? (i := 32) (by decide +kernel), ⟨by decide +kernel, by decide +kernel, by decide +kernel⟩⟩
theorem kc_X2_add : CalV yX2_add cX2_add 4 (some .int) 3 := ⟨List.mem_of_getElem? (i := 215) (by decide +kernel), List.mem_of_getElem? (i := 213) (by decide +kernel), List.mem_of_getElem? (i := 214) (by decide +kernel), List.mem_of_getElem? (i := 32) (by decide +kernel), ⟨by decide +kernel, by decide +kernel, by decide +kernel⟩⟩
theorem kc_X2_addTest : CalV yX2_addTest cX2_addTest 4 (some .int) 2 := ⟨List.mem_of_getElem? (i := 230) (by decide +kernel), List.mem_of_getElem? (i := 228) (by decide +kernel), List.mem_of_getElem? (i := 229) (by decide +kernel), List.mem_of_getElem? (i := 32) (by decide +kernel), ⟨by decide +kernel, by decide +kernel, by decide +kernel⟩⟩
theorem kc_X2_dropTests : CalV yX2_dropTests cX2_dropTests 5 (some .int) 2 := ⟨List.mem_of_getElem? (i := 238) (by decide +kernel), List.mem_of_getElem? (i := 236) (by decide +kernel), List.mem_of_getElem? (i := 237) (by decide +kernel), List.mem_of_getElem? (i := 32) (by decide +kernel), ⟨by decide +kernel, by decide +kernel, by decide +kernel⟩⟩
theorem kc_X2_allTests : CalV yX2_allTests cX2_allTests 3 (some .int) 0 := ⟨List.mem_of_getElem? (i := 565) (by decide +kernel), List.mem_of_getElem? (i := 563) (by decide +kernel), List.mem_of_getElem? (i := 564) (by decide +kernel), List.mem_of_getElem? (i := 32) (by decide +kernel), ⟨by decide +kernel, by decide +kernel, by decide +kernel⟩⟩
theorem kc_X2_allBypasses : CalV yX2_allBypasses cX2_allBypasses 1 (some .int) 0 := ⟨List.mem_of_getElem? (i := 569) (by decide +kernel), List.mem_of_getElem? (i := 567) (by decide +kernel), List.mem_of_getElem? (i := 568) (by decide +kernel), List.mem_of_getElem? (i := 32) (by decide +kernel), ⟨by decide +kernel, by decide +kernel, by decide +kernel⟩⟩
theorem kc_X2_addBypass : CalV yX2_addBypass cX2_addBypass 5 (some .int) 3 := ⟨List.mem_of_getElem? (i := 253) (by decide +kernel), List.mem_of_getElem? (i := 251) (by decide +kernel), List.mem_of_getElem? (i := 252) (by decide +kernel), List.mem_of_getElem? (i := 32) (by decide +kernel), ⟨by decide +kernel, by decide +kernel, by decide +kernel⟩⟩
theorem kc_X2_bypassedDays : CalV yX2_bypassedDays cX2_bypassedDays 6 (some .int) 3 := ⟨List.mem_of_getElem? (i := 271) (by decide +kernel), List.mem_of_getElem? (i := 269) (by decide +kernel), List.mem_of_getElem? (i := 270) (by decide +kernel), List.mem_of_getElem? (i := 32) (by decide +kernel), ⟨by decide +kernel, by decide +kernel, by decide +kernel⟩⟩
theorem kc_X2_changeCost : CalV yX2_changeCost cX2_changeCost 4 (some .int) 2 := ⟨List.mem_of_getElem? (i := 494) (by decide +kernel), List.mem_of_getElem? (i := 492) (by decide +kernel), List.mem_of_getElem? (i := 493) (by decide +kernel), List.mem_of_getElem? (i := 32) (by decide +kernel), ⟨by decide +kernel, by decide +kernel, by decide +kernel⟩⟩
theorem kc_X2_costOf : CalV yX2_costOf cX2_costOf 2 (some .int) 1 := ⟨List.mem_of_getElem? (i := 531) (by decide +kernel), List.mem_of_getElem? (i := 529) (by decide +kernel), List.mem_of_getElem? (i := 530) (by decide +kernel), List.mem_of_getElem? (i := 32) (by decide +kernel), ⟨by decide +kernel, by decide +kernel, by decide +kernel⟩⟩
theorem kc_X2_shareForNothing : CalV yX2_shareForNothing cX2_shareForNothing 2 (some .int) 1 := ⟨List.mem_of_getElem? (i := 466) (by decide +kernel), List.mem_of_getElem? (i := 464) (by decide +kernel), List.mem_of_getElem? (i := 465) (by decide +kernel), List.mem_of_getElem? (i := 32) (by decide +kernel), ⟨by decide +kernel, by decide +kernel, by decide +kernel⟩⟩
theorem kc_X2_shareOn : CalV yX2_shareOn cX2_shareOn 5 (some .int) 2 := ⟨List.mem_of_getElem? (i := 354) (by decide +kernel), List.mem_of_getElem? (i := 352) (by decide +kernel), List.mem_of_getElem? (i := 353) (by decide +kernel), List.mem_of_getElem? (i := 32) (by decide +kernel), ⟨by decide +kernel, by decide +kernel, by decide +kernel⟩⟩
theorem kc_X2_shareAfter : CalV yX2_shareAfter cX2_shareAfter 4 (some .int) 3 := ⟨List.mem_of_getElem? (i := 358) (by decide +kernel), List.mem_of_getElem? (i := 356) (by decide +kernel), List.mem_of_getElem? (i := 357) (by decide +kernel), List.mem_of_getElem? (i := 32) (by decide +kernel), ⟨by decide +kernel, by decide +kernel, by decide +kernel⟩⟩
theorem kc_X2_testsUpTo : CalV yX2_testsUpTo cX2_testsUpTo 5 (some .int) 2 := ⟨List.mem_of_getElem? (i := 242) (by decide +kernel), List.mem_of_getElem? (i := 241) (by decide +kernel), List.mem_of_getElem? (i := 0) (by decide +kernel), List.mem_of_getElem? (i := 32) (by decide +kernel), ⟨by decide +kernel, by decide +kernel, by decide +kernel⟩⟩
theorem kc_X2_daysInWord : CalS yX2_daysInWord cX2_daysInWord 5 (some .long) 3 := ⟨List.mem_of_getElem? (i := 256) (by decide +kernel), List.mem_of_getElem? (i := 255) (by decide +kernel), List.mem_of_getElem? (i := 32) (by decide +kernel), ⟨by decide +kernel, by decide +kernel, by decide +kernel⟩⟩
theorem kc_X3_init : Cond.code yX3_init cX3_init 3 none ∈ lw_tbl ∧ Cond.instanceMethod yX3_init ∈ lw_tbl ∧ Cond.initialized yX3_init.cls ∈ lw_tbl := ⟨List.mem_of_getElem? (i := 165) (by decide +kernel), List.mem_of_getElem? (i := 164) (by decide +kernel), List.mem_of_getElem? (i := 36) (by decide +kernel)⟩
theorem kc_X3_setIntervals : CalV yX3_setIntervals cX3_setIntervals 4 none 3 := ⟨List.mem_of_getElem? (i := 506) (by decide +kernel), List.mem_of_getElem? (i := 504) (by decide +kernel), List.mem_of_getElem? (i := 505) (by decide +kernel), List.mem_of_getElem? (i := 36) (by decide +kernel), ⟨by decide +kernel, by decide +kernel, by decide +kernel⟩⟩
theorem kc_X3_cheapestCost : CalV yX3_cheapestCost cX3_cheapestCost 1 (some .int) 0 := ⟨List.mem_of_getElem? (i := 549) (by decide +kernel), List.mem_of_getElem? (i := 547) (by decide +kernel), List.mem_of_getElem? (i := 548) (by decide +kernel), List.mem_of_getElem? (i := 36) (by decide +kernel), ⟨by decide +kernel, by decide +kernel, by decide +kernel⟩⟩
theorem kc_X3_cheapestChoices : CalV yX3_cheapestChoices cX3_cheapestChoices 1 (some .int) 0 := ⟨List.mem_of_getElem? (i := 553) (by decide +kernel), List.mem_of_getElem? (i := 551) (by decide +kernel), List.mem_of_getElem? (i := 552) (by decide +kernel), List.mem_of_getElem? (i := 36) (by decide +kernel), ⟨by decide +kernel, by decide +kernel, by decide +kernel⟩⟩
theorem kc_X3_findCheapest : CalV yX3_findCheapest cX3_findCheapest 8 (some .boolean) 2 := ⟨List.mem_of_getElem? (i := 510) (by decide +kernel), List.mem_of_getElem? (i := 508) (by decide +kernel), List.mem_of_getElem? (i := 509) (by decide +kernel), List.mem_of_getElem? (i := 36) (by decide +kernel), ⟨by decide +kernel, by decide +kernel, by decide +kernel⟩⟩
theorem kc_X3_takeChoices : CalV yX3_takeChoices cX3_takeChoices 4 none 1 := ⟨List.mem_of_getElem? (i := 519) (by decide +kernel), List.mem_of_getElem? (i := 518) (by decide +kernel), List.mem_of_getElem? (i := 10) (by decide +kernel), List.mem_of_getElem? (i := 36) (by decide +kernel), ⟨by decide +kernel, by decide +kernel, by decide +kernel⟩⟩
theorem kc_X3_toldChoices : CalV yX3_toldChoices cX3_toldChoices 3 (some .int) 0 := ⟨List.mem_of_getElem? (i := 545) (by decide +kernel), List.mem_of_getElem? (i := 544) (by decide +kernel), List.mem_of_getElem? (i := 13) (by decide +kernel), List.mem_of_getElem? (i := 36) (by decide +kernel), ⟨by decide +kernel, by decide +kernel, by decide +kernel⟩⟩
theorem kc_X3_costOfChoices : CalV yX3_costOfChoices cX3_costOfChoices 3 (some .int) 0 := ⟨List.mem_of_getElem? (i := 523) (by decide +kernel), List.mem_of_getElem? (i := 522) (by decide +kernel), List.mem_of_getElem? (i := 11) (by decide +kernel), List.mem_of_getElem? (i := 36) (by decide +kernel), ⟨by decide +kernel, by decide +kernel, by decide +kernel⟩⟩
theorem kc_X3_keepsLaw : CalV yX3_keepsLaw cX3_keepsLaw 8 (some .boolean) 1 := ⟨List.mem_of_getElem? (i := 535) (by decide +kernel), List.mem_of_getElem? (i := 534) (by decide +kernel), List.mem_of_getElem? (i := 12) (by decide +kernel), List.mem_of_getElem? (i := 36) (by decide +kernel), ⟨by decide +kernel, by decide +kernel, by decide +kernel⟩⟩
theorem kc_X4_init : Cond.code yX4_init cX4_init 1 none ∈ lw_tbl ∧ Cond.instanceMethod yX4_init ∈ lw_tbl ∧ Cond.initialized yX4_init.cls ∈ lw_tbl := ⟨List.mem_of_getElem? (i := 106) (by decide +kernel), List.mem_of_getElem? (i := 105) (by decide +kernel), List.mem_of_getElem? (i := 34) (by decide +kernel)⟩
theorem kc_X4_has : CalV yX4_has cX4_has 2 (some .boolean) 1 := ⟨List.mem_of_getElem? (i := 307) (by decide +kernel), List.mem_of_getElem? (i := 305) (by decide +kernel), List.mem_of_getElem? (i := 306) (by decide +kernel), List.mem_of_getElem? (i := 34) (by decide +kernel), ⟨by decide +kernel, by decide +kernel, by decide +kernel⟩⟩
theorem kc_X4_size : CalV yX4_size cX4_size 1 (some .int) 0 := ⟨List.mem_of_getElem? (i := 574) (by decide +kernel), List.mem_of_getElem? (i := 572) (by decide +kernel), List.mem_of_getElem? (i := 573) (by decide +kernel), List.mem_of_getElem? (i := 34) (by decide +kernel), ⟨by decide +kernel, by decide +kernel, by decide +kernel⟩⟩
theorem kc_X4_partsBelow : CalV yX4_partsBelow cX4_partsBelow 2 (some .int) 1 := ⟨List.mem_of_getElem? (i := 366) (by decide +kernel), List.mem_of_getElem? (i := 364) (by decide +kernel), List.mem_of_getElem? (i := 365) (by decide +kernel), List.mem_of_getElem? (i := 34) (by decide +kernel), ⟨by decide +kernel, by decide +kernel, by decide +kernel⟩⟩
theorem kc_X4_sizeBelow : CalV yX4_sizeBelow cX4_sizeBelow 2 (some .int) 1 := ⟨List.mem_of_getElem? (i := 319) (by decide +kernel), List.mem_of_getElem? (i := 317) (by decide +kernel), List.mem_of_getElem? (i := 318) (by decide +kernel), List.mem_of_getElem? (i := 34) (by decide +kernel), ⟨by decide +kernel, by decide +kernel, by decide +kernel⟩⟩
theorem kc_X4_add : CalV yX4_add cX4_add 6 (some .int) 3 := ⟨List.mem_of_getElem? (i := 311) (by decide +kernel), List.mem_of_getElem? (i := 309) (by decide +kernel), List.mem_of_getElem? (i := 310) (by decide +kernel), List.mem_of_getElem? (i := 34) (by decide +kernel), ⟨by decide +kernel, by decide +kernel, by decide +kernel⟩⟩
theorem kc_X4_actsIn : CalV yX4_actsIn cX4_actsIn 3 (some .boolean) 2 := ⟨List.mem_of_getElem? (i := 346) (by decide +kernel), List.mem_of_getElem? (i := 344) (by decide +kernel), List.mem_of_getElem? (i := 345) (by decide +kernel), List.mem_of_getElem? (i := 34) (by decide +kernel), ⟨by decide +kernel, by decide +kernel, by decide +kernel⟩⟩
theorem kc_X4_partsOfInput : CalV yX4_partsOfInput cX4_partsOfInput 2 (some .int) 1 := ⟨List.mem_of_getElem? (i := 315) (by decide +kernel), List.mem_of_getElem? (i := 314) (by decide +kernel), List.mem_of_getElem? (i := 2) (by decide +kernel), List.mem_of_getElem? (i := 34) (by decide +kernel), ⟨by decide +kernel, by decide +kernel, by decide +kernel⟩⟩
theorem kc_X4_workOutActingSets : CalV yX4_workOutActingSets cX4_workOutActingSets 4 none 1 := ⟨List.mem_of_getElem? (i := 324) (by decide +kernel), List.mem_of_getElem? (i := 323) (by decide +kernel), List.mem_of_getElem? (i := 3) (by decide +kernel), List.mem_of_getElem? (i := 34) (by decide +kernel), ⟨by decide +kernel, by decide +kernel, by decide +kernel⟩⟩
theorem kc_X4_actingInputs : CalV yX4_actingInputs cX4_actingInputs 5 (some .int) 2 := ⟨List.mem_of_getElem? (i := 334) (by decide +kernel), List.mem_of_getElem? (i := 333) (by decide +kernel), List.mem_of_getElem? (i := 4) (by decide +kernel), List.mem_of_getElem? (i := 34) (by decide +kernel), ⟨by decide +kernel, by decide +kernel, by decide +kernel⟩⟩
theorem kc_X4_inputActs : CalV yX4_inputActs cX4_inputActs 4 (some .boolean) 2 := ⟨List.mem_of_getElem? (i := 338) (by decide +kernel), List.mem_of_getElem? (i := 337) (by decide +kernel), List.mem_of_getElem? (i := 5) (by decide +kernel), List.mem_of_getElem? (i := 34) (by decide +kernel), ⟨by decide +kernel, by decide +kernel, by decide +kernel⟩⟩
theorem kc_X5_init : Cond.code yX5_init cX5_init 1 none ∈ lw_tbl ∧ Cond.instanceMethod yX5_init ∈ lw_tbl ∧ Cond.initialized yX5_init.cls ∈ lw_tbl := ⟨List.mem_of_getElem? (i := 46) (by decide +kernel), List.mem_of_getElem? (i := 45) (by decide +kernel), List.mem_of_getElem? (i := 31) (by decide +kernel)⟩
theorem kc_X5_part : CalV yX5_part cX5_part 4 (some .int) 3 := ⟨List.mem_of_getElem? (i := 208) (by decide +kernel), List.mem_of_getElem? (i := 206) (by decide +kernel), List.mem_of_getElem? (i := 207) (by decide +kernel), List.mem_of_getElem? (i := 31) (by decide +kernel), ⟨by decide +kernel, by decide +kernel, by decide +kernel⟩⟩
theorem kc_X5_test : CalV yX5_test cX5_test 3 (some .int) 2 := ⟨List.mem_of_getElem? (i := 219) (by decide +kernel), List.mem_of_getElem? (i := 217) (by decide +kernel), List.mem_of_getElem? (i := 218) (by decide +kernel), List.mem_of_getElem? (i := 31) (by decide +kernel), ⟨by decide +kernel, by decide +kernel, by decide +kernel⟩⟩
theorem kc_X5_noTests : CalV yX5_noTests cX5_noTests 3 (some .int) 2 := ⟨List.mem_of_getElem? (i := 234) (by decide +kernel), List.mem_of_getElem? (i := 232) (by decide +kernel), List.mem_of_getElem? (i := 233) (by decide +kernel), List.mem_of_getElem? (i := 31) (by decide +kernel), ⟨by decide +kernel, by decide +kernel, by decide +kernel⟩⟩
theorem kc_X5_bypass : CalV yX5_bypass cX5_bypass 4 (some .int) 3 := ⟨List.mem_of_getElem? (i := 246) (by decide +kernel), List.mem_of_getElem? (i := 244) (by decide +kernel), List.mem_of_getElem? (i := 245) (by decide +kernel), List.mem_of_getElem? (i := 31) (by decide +kernel), ⟨by decide +kernel, by decide +kernel, by decide +kernel⟩⟩
theorem kc_X5_bypassed : CalV yX5_bypassed cX5_bypassed 4 (some .int) 3 := ⟨List.mem_of_getElem? (i := 267) (by decide +kernel), List.mem_of_getElem? (i := 265) (by decide +kernel), List.mem_of_getElem? (i := 266) (by decide +kernel), List.mem_of_getElem? (i := 31) (by decide +kernel), ⟨by decide +kernel, by decide +kernel, by decide +kernel⟩⟩
theorem kc_X5_group : CalV yX5_group cX5_group 3 (some .int) 2 := ⟨List.mem_of_getElem? (i := 281) (by decide +kernel), List.mem_of_getElem? (i := 279) (by decide +kernel), List.mem_of_getElem? (i := 280) (by decide +kernel), List.mem_of_getElem? (i := 31) (by decide +kernel), ⟨by decide +kernel, by decide +kernel, by decide +kernel⟩⟩
theorem kc_X5_vote : CalV yX5_vote cX5_vote 8 (some .int) 6 := ⟨List.mem_of_getElem? (i := 299) (by decide +kernel), List.mem_of_getElem? (i := 297) (by decide +kernel), List.mem_of_getElem? (i := 298) (by decide +kernel), List.mem_of_getElem? (i := 31) (by decide +kernel), ⟨by decide +kernel, by decide +kernel, by decide +kernel⟩⟩
theorem kc_X5_share : CalV yX5_share cX5_share 3 (some .int) 2 := ⟨List.mem_of_getElem? (i := 350) (by decide +kernel), List.mem_of_getElem? (i := 348) (by decide +kernel), List.mem_of_getElem? (i := 349) (by decide +kernel), List.mem_of_getElem? (i := 31) (by decide +kernel), ⟨by decide +kernel, by decide +kernel, by decide +kernel⟩⟩
theorem kc_X5_below : CalV yX5_below cX5_below 3 (some .int) 2 := ⟨List.mem_of_getElem? (i := 362) (by decide +kernel), List.mem_of_getElem? (i := 360) (by decide +kernel), List.mem_of_getElem? (i := 361) (by decide +kernel), List.mem_of_getElem? (i := 31) (by decide +kernel), ⟨by decide +kernel, by decide +kernel, by decide +kernel⟩⟩
theorem kc_X5_shared : CalV yX5_shared cX5_shared 4 (some .int) 2 := ⟨List.mem_of_getElem? (i := 386) (by decide +kernel), List.mem_of_getElem? (i := 384) (by decide +kernel), List.mem_of_getElem? (i := 385) (by decide +kernel), List.mem_of_getElem? (i := 31) (by decide +kernel), ⟨by decide +kernel, by decide +kernel, by decide +kernel⟩⟩
theorem kc_X5_chance : CalV yX5_chance cX5_chance 3 (some .long) 2 := ⟨List.mem_of_getElem? (i := 390) (by decide +kernel), List.mem_of_getElem? (i := 388) (by decide +kernel), List.mem_of_getElem? (i := 389) (by decide +kernel), List.mem_of_getElem? (i := 31) (by decide +kernel), ⟨by decide +kernel, by decide +kernel, by decide +kernel⟩⟩
theorem kc_X5_over : CalV yX5_over cX5_over 7 (some .long) 3 := ⟨List.mem_of_getElem? (i := 445) (by decide +kernel), List.mem_of_getElem? (i := 443) (by decide +kernel), List.mem_of_getElem? (i := 444) (by decide +kernel), List.mem_of_getElem? (i := 31) (by decide +kernel), ⟨by decide +kernel, by decide +kernel, by decide +kernel⟩⟩
theorem kc_X5_broken : CalV yX5_broken cX5_broken 7 (some .int) 4 := ⟨List.mem_of_getElem? (i := 452) (by decide +kernel), List.mem_of_getElem? (i := 450) (by decide +kernel), List.mem_of_getElem? (i := 451) (by decide +kernel), List.mem_of_getElem? (i := 31) (by decide +kernel), ⟨by decide +kernel, by decide +kernel, by decide +kernel⟩⟩
theorem kc_X5_nothing : CalV yX5_nothing cX5_nothing 2 (some .long) 1 := ⟨List.mem_of_getElem? (i := 457) (by decide +kernel), List.mem_of_getElem? (i := 455) (by decide +kernel), List.mem_of_getElem? (i := 456) (by decide +kernel), List.mem_of_getElem? (i := 31) (by decide +kernel), ⟨by decide +kernel, by decide +kernel, by decide +kernel⟩⟩
theorem kc_X5_matters : CalV yX5_matters cX5_matters 4 (some .long) 3 := ⟨List.mem_of_getElem? (i := 470) (by decide +kernel), List.mem_of_getElem? (i := 468) (by decide +kernel), List.mem_of_getElem? (i := 469) (by decide +kernel), List.mem_of_getElem? (i := 31) (by decide +kernel), ⟨by decide +kernel, by decide +kernel, by decide +kernel⟩⟩
theorem kc_X5_most : CalV yX5_most cX5_most 3 (some .int) 2 := ⟨List.mem_of_getElem? (i := 482) (by decide +kernel), List.mem_of_getElem? (i := 480) (by decide +kernel), List.mem_of_getElem? (i := 481) (by decide +kernel), List.mem_of_getElem? (i := 31) (by decide +kernel), ⟨by decide +kernel, by decide +kernel, by decide +kernel⟩⟩
theorem kc_X5_cost : CalV yX5_cost cX5_cost 3 (some .int) 2 := ⟨List.mem_of_getElem? (i := 490) (by decide +kernel), List.mem_of_getElem? (i := 488) (by decide +kernel), List.mem_of_getElem? (i := 489) (by decide +kernel), List.mem_of_getElem? (i := 31) (by decide +kernel), ⟨by decide +kernel, by decide +kernel, by decide +kernel⟩⟩
theorem kc_X5_plan : CalV yX5_plan cX5_plan 8 (some .int) 6 := ⟨List.mem_of_getElem? (i := 498) (by decide +kernel), List.mem_of_getElem? (i := 496) (by decide +kernel), List.mem_of_getElem? (i := 497) (by decide +kernel), List.mem_of_getElem? (i := 31) (by decide +kernel), ⟨by decide +kernel, by decide +kernel, by decide +kernel⟩⟩
theorem kc_X5_count : CalV yX5_count cX5_count 2 (some .int) 1 := ⟨List.mem_of_getElem? (i := 557) (by decide +kernel), List.mem_of_getElem? (i := 555) (by decide +kernel), List.mem_of_getElem? (i := 556) (by decide +kernel), List.mem_of_getElem? (i := 31) (by decide +kernel), ⟨by decide +kernel, by decide +kernel, by decide +kernel⟩⟩
theorem kc_X5_isInput : CalV yX5_isInput cX5_isInput 2 (some .boolean) 1 := ⟨List.mem_of_getElem? (i := 303) (by decide +kernel), List.mem_of_getElem? (i := 302) (by decide +kernel), List.mem_of_getElem? (i := 1) (by decide +kernel), List.mem_of_getElem? (i := 31) (by decide +kernel), ⟨by decide +kernel, by decide +kernel, by decide +kernel⟩⟩
theorem kc_X5_isShare : CalS yX5_isShare cX5_isShare 1 (some .boolean) 1 := ⟨List.mem_of_getElem? (i := 211) (by decide +kernel), List.mem_of_getElem? (i := 210) (by decide +kernel), List.mem_of_getElem? (i := 31) (by decide +kernel), ⟨by decide +kernel, by decide +kernel, by decide +kernel⟩⟩
theorem kc_X5_isDay : CalS yX5_isDay cX5_isDay 1 (some .boolean) 1 := ⟨List.mem_of_getElem? (i := 226) (by decide +kernel), List.mem_of_getElem? (i := 225) (by decide +kernel), List.mem_of_getElem? (i := 31) (by decide +kernel), ⟨by decide +kernel, by decide +kernel, by decide +kernel⟩⟩
theorem kc_X5_areDays : CalS yX5_areDays cX5_areDays 2 (some .boolean) 2 := ⟨List.mem_of_getElem? (i := 249) (by decide +kernel), List.mem_of_getElem? (i := 248) (by decide +kernel), List.mem_of_getElem? (i := 31) (by decide +kernel), ⟨by decide +kernel, by decide +kernel, by decide +kernel⟩⟩
theorem kc_X5_areSummedDays : CalS yX5_areSummedDays cX5_areSummedDays 2 (some .boolean) 2 := ⟨List.mem_of_getElem? (i := 448) (by decide +kernel), List.mem_of_getElem? (i := 447) (by decide +kernel), List.mem_of_getElem? (i := 31) (by decide +kernel), ⟨by decide +kernel, by decide +kernel, by decide +kernel⟩⟩
theorem kc_X5_isInterval : CalS yX5_isInterval cX5_isInterval 1 (some .boolean) 1 := ⟨List.mem_of_getElem? (i := 501) (by decide +kernel), List.mem_of_getElem? (i := 500) (by decide +kernel), List.mem_of_getElem? (i := 31) (by decide +kernel), ⟨by decide +kernel, by decide +kernel, by decide +kernel⟩⟩
theorem kc_X5_hasBit : CalS yX5_hasBit cX5_hasBit 2 (some .boolean) 2 := ⟨List.mem_of_getElem? (i := 330) (by decide +kernel), List.mem_of_getElem? (i := 329) (by decide +kernel), List.mem_of_getElem? (i := 31) (by decide +kernel), ⟨by decide +kernel, by decide +kernel, by decide +kernel⟩⟩
theorem kc_X5_packed : CalS yX5_packed cX5_packed 5 (some .int) 2 := ⟨List.mem_of_getElem? (i := 342) (by decide +kernel), List.mem_of_getElem? (i := 341) (by decide +kernel), List.mem_of_getElem? (i := 31) (by decide +kernel), ⟨by decide +kernel, by decide +kernel, by decide +kernel⟩⟩
theorem kc_X5_spread : CalS yX5_spread cX5_spread 5 (some .int) 2 := ⟨List.mem_of_getElem? (i := 327) (by decide +kernel), List.mem_of_getElem? (i := 326) (by decide +kernel), List.mem_of_getElem? (i := 31) (by decide +kernel), ⟨by decide +kernel, by decide +kernel, by decide +kernel⟩⟩
theorem kc_X6_init : Cond.code yX6_init cX6_init 2 none ∈ lw_tbl ∧ Cond.instanceMethod yX6_init ∈ lw_tbl ∧ Cond.initialized yX6_init.cls ∈ lw_tbl := ⟨List.mem_of_getElem? (i := 579) (by decide +kernel), List.mem_of_getElem? (i := 578) (by decide +kernel), List.mem_of_getElem? (i := 37) (by decide +kernel)⟩
theorem kc_X6_in : CalS yX6_in cX6_in 6 (some .boolean) 3 := ⟨List.mem_of_getElem? (i := 668) (by decide +kernel), List.mem_of_getElem? (i := 667) (by decide +kernel), List.mem_of_getElem? (i := 37) (by decide +kernel), ⟨by decide +kernel, by decide +kernel, by decide +kernel⟩⟩
theorem kc_X6_isPart : CalV yX6_isPart cX6_isPart 2 (some .boolean) 1 := ⟨List.mem_of_getElem? (i := 676) (by decide +kernel), List.mem_of_getElem? (i := 675) (by decide +kernel), List.mem_of_getElem? (i := 14) (by decide +kernel), List.mem_of_getElem? (i := 37) (by decide +kernel), ⟨by decide +kernel, by decide +kernel, by decide +kernel⟩⟩
theorem kc_X6_isVote : CalV yX6_isVote cX6_isVote 2 (some .boolean) 1 := ⟨List.mem_of_getElem? (i := 732) (by decide +kernel), List.mem_of_getElem? (i := 731) (by decide +kernel), List.mem_of_getElem? (i := 18) (by decide +kernel), List.mem_of_getElem? (i := 37) (by decide +kernel), ⟨by decide +kernel, by decide +kernel, by decide +kernel⟩⟩
theorem kc_X6_isDay : CalS yX6_isDay cX6_isDay 1 (some .boolean) 1 := ⟨List.mem_of_getElem? (i := 679) (by decide +kernel), List.mem_of_getElem? (i := 678) (by decide +kernel), List.mem_of_getElem? (i := 37) (by decide +kernel), ⟨by decide +kernel, by decide +kernel, by decide +kernel⟩⟩
theorem kc_X6_part : CalV yX6_part cX6_part 4 (some .int) 3 := ⟨List.mem_of_getElem? (i := 664) (by decide +kernel), List.mem_of_getElem? (i := 662) (by decide +kernel), List.mem_of_getElem? (i := 663) (by decide +kernel), List.mem_of_getElem? (i := 37) (by decide +kernel), ⟨by decide +kernel, by decide +kernel, by decide +kernel⟩⟩
theorem kc_X6_test : CalV yX6_test cX6_test 3 (some .int) 2 := ⟨List.mem_of_getElem? (i := 672) (by decide +kernel), List.mem_of_getElem? (i := 670) (by decide +kernel), List.mem_of_getElem? (i := 671) (by decide +kernel), List.mem_of_getElem? (i := 37) (by decide +kernel), ⟨by decide +kernel, by decide +kernel, by decide +kernel⟩⟩
theorem kc_X6_noTests : CalV yX6_noTests cX6_noTests 4 (some .int) 2 := ⟨List.mem_of_getElem? (i := 684) (by decide +kernel), List.mem_of_getElem? (i := 682) (by decide +kernel), List.mem_of_getElem? (i := 683) (by decide +kernel), List.mem_of_getElem? (i := 37) (by decide +kernel), ⟨by decide +kernel, by decide +kernel, by decide +kernel⟩⟩
theorem kc_X6_areDays : CalS yX6_areDays cX6_areDays 2 (some .boolean) 2 := ⟨List.mem_of_getElem? (i := 691) (by decide +kernel), List.mem_of_getElem? (i := 690) (by decide +kernel), List.mem_of_getElem? (i := 37) (by decide +kernel), ⟨by decide +kernel, by decide +kernel, by decide +kernel⟩⟩
theorem kc_X6_bypass : CalV yX6_bypass cX6_bypass 4 (some .int) 3 := ⟨List.mem_of_getElem? (i := 688) (by decide +kernel), List.mem_of_getElem? (i := 686) (by decide +kernel), List.mem_of_getElem? (i := 687) (by decide +kernel), List.mem_of_getElem? (i := 37) (by decide +kernel), ⟨by decide +kernel, by decide +kernel, by decide +kernel⟩⟩
theorem kc_X6_isBypassed : CalV yX6_isBypassed cX6_isBypassed 5 (some .boolean) 2 := ⟨List.mem_of_getElem? (i := 699) (by decide +kernel), List.mem_of_getElem? (i := 698) (by decide +kernel), List.mem_of_getElem? (i := 15) (by decide +kernel), List.mem_of_getElem? (i := 37) (by decide +kernel), ⟨by decide +kernel, by decide +kernel, by decide +kernel⟩⟩
theorem kc_X6_bypassed : CalV yX6_bypassed cX6_bypassed 6 (some .int) 3 := ⟨List.mem_of_getElem? (i := 695) (by decide +kernel), List.mem_of_getElem? (i := 693) (by decide +kernel), List.mem_of_getElem? (i := 694) (by decide +kernel), List.mem_of_getElem? (i := 37) (by decide +kernel), ⟨by decide +kernel, by decide +kernel, by decide +kernel⟩⟩
theorem kc_X6_bits : CalS yX6_bits cX6_bits 3 (some .int) 1 := ⟨List.mem_of_getElem? (i := 706) (by decide +kernel), List.mem_of_getElem? (i := 705) (by decide +kernel), List.mem_of_getElem? (i := 37) (by decide +kernel), ⟨by decide +kernel, by decide +kernel, by decide +kernel⟩⟩
theorem kc_X6_group : CalV yX6_group cX6_group 3 (some .int) 2 := ⟨List.mem_of_getElem? (i := 703) (by decide +kernel), List.mem_of_getElem? (i := 701) (by decide +kernel), List.mem_of_getElem? (i := 702) (by decide +kernel), List.mem_of_getElem? (i := 37) (by decide +kernel), ⟨by decide +kernel, by decide +kernel, by decide +kernel⟩⟩
theorem kc_X6_isInput : CalV yX6_isInput cX6_isInput 2 (some .boolean) 1 := ⟨List.mem_of_getElem? (i := 715) (by decide +kernel), List.mem_of_getElem? (i := 714) (by decide +kernel), List.mem_of_getElem? (i := 16) (by decide +kernel), List.mem_of_getElem? (i := 37) (by decide +kernel), ⟨by decide +kernel, by decide +kernel, by decide +kernel⟩⟩
theorem kc_X6_vote : CalV yX6_vote cX6_vote 8 (some .int) 6 := ⟨List.mem_of_getElem? (i := 710) (by decide +kernel), List.mem_of_getElem? (i := 708) (by decide +kernel), List.mem_of_getElem? (i := 709) (by decide +kernel), List.mem_of_getElem? (i := 37) (by decide +kernel), ⟨by decide +kernel, by decide +kernel, by decide +kernel⟩⟩
theorem kc_X6_shareOf : CalV yX6_shareOf cX6_shareOf 5 (some .int) 2 := ⟨List.mem_of_getElem? (i := 724) (by decide +kernel), List.mem_of_getElem? (i := 723) (by decide +kernel), List.mem_of_getElem? (i := 17) (by decide +kernel), List.mem_of_getElem? (i := 37) (by decide +kernel), ⟨by decide +kernel, by decide +kernel, by decide +kernel⟩⟩
theorem kc_X6_share : CalV yX6_share cX6_share 3 (some .int) 2 := ⟨List.mem_of_getElem? (i := 720) (by decide +kernel), List.mem_of_getElem? (i := 718) (by decide +kernel), List.mem_of_getElem? (i := 719) (by decide +kernel), List.mem_of_getElem? (i := 37) (by decide +kernel), ⟨by decide +kernel, by decide +kernel, by decide +kernel⟩⟩
theorem kc_X6_partsOf : CalV yX6_partsOf cX6_partsOf 4 (some .int) 1 := ⟨List.mem_of_getElem? (i := 737) (by decide +kernel), List.mem_of_getElem? (i := 736) (by decide +kernel), List.mem_of_getElem? (i := 19) (by decide +kernel), List.mem_of_getElem? (i := 37) (by decide +kernel), ⟨by decide +kernel, by decide +kernel, by decide +kernel⟩⟩
theorem kc_X6_groupsOf : CalV yX6_groupsOf cX6_groupsOf 4 (some .int) 1 := ⟨List.mem_of_getElem? (i := 741) (by decide +kernel), List.mem_of_getElem? (i := 740) (by decide +kernel), List.mem_of_getElem? (i := 20) (by decide +kernel), List.mem_of_getElem? (i := 37) (by decide +kernel), ⟨by decide +kernel, by decide +kernel, by decide +kernel⟩⟩
theorem kc_X6_eventsOf : CalV yX6_eventsOf cX6_eventsOf 3 (some .int) 1 := ⟨List.mem_of_getElem? (i := 745) (by decide +kernel), List.mem_of_getElem? (i := 744) (by decide +kernel), List.mem_of_getElem? (i := 21) (by decide +kernel), List.mem_of_getElem? (i := 37) (by decide +kernel), ⟨by decide +kernel, by decide +kernel, by decide +kernel⟩⟩
theorem kc_X6_below : CalV yX6_below cX6_below 4 (some .int) 2 := ⟨List.mem_of_getElem? (i := 728) (by decide +kernel), List.mem_of_getElem? (i := 726) (by decide +kernel), List.mem_of_getElem? (i := 727) (by decide +kernel), List.mem_of_getElem? (i := 37) (by decide +kernel), ⟨by decide +kernel, by decide +kernel, by decide +kernel⟩⟩
theorem kc_X6_shared : CalV yX6_shared cX6_shared 5 (some .int) 2 := ⟨List.mem_of_getElem? (i := 749) (by decide +kernel), List.mem_of_getElem? (i := 747) (by decide +kernel), List.mem_of_getElem? (i := 748) (by decide +kernel), List.mem_of_getElem? (i := 37) (by decide +kernel), ⟨by decide +kernel, by decide +kernel, by decide +kernel⟩⟩
theorem kc_X6_does : CalV yX6_does cX6_does 7 (some .boolean) 2 := ⟨List.mem_of_getElem? (i := 771) (by decide +kernel), List.mem_of_getElem? (i := 770) (by decide +kernel), List.mem_of_getElem? (i := 25) (by decide +kernel), List.mem_of_getElem? (i := 37) (by decide +kernel), ⟨by decide +kernel, by decide +kernel, by decide +kernel⟩⟩
theorem kc_X6_adds : CalV yX6_adds cX6_adds 3 none 2 := ⟨List.mem_of_getElem? (i := 763) (by decide +kernel), List.mem_of_getElem? (i := 762) (by decide +kernel), List.mem_of_getElem? (i := 23) (by decide +kernel), List.mem_of_getElem? (i := 37) (by decide +kernel), ⟨by decide +kernel, by decide +kernel, by decide +kernel⟩⟩
theorem kc_X6_sums : CalV yX6_sums cX6_sums 11 (some .long) 2 := ⟨List.mem_of_getElem? (i := 767) (by decide +kernel), List.mem_of_getElem? (i := 766) (by decide +kernel), List.mem_of_getElem? (i := 24) (by decide +kernel), List.mem_of_getElem? (i := 37) (by decide +kernel), ⟨by decide +kernel, by decide +kernel, by decide +kernel⟩⟩
theorem kc_X6_chanceOf : CalV yX6_chanceOf cX6_chanceOf 5 (some .long) 2 := ⟨List.mem_of_getElem? (i := 759) (by decide +kernel), List.mem_of_getElem? (i := 758) (by decide +kernel), List.mem_of_getElem? (i := 22) (by decide +kernel), List.mem_of_getElem? (i := 37) (by decide +kernel), ⟨by decide +kernel, by decide +kernel, by decide +kernel⟩⟩
theorem kc_X6_chance : CalV yX6_chance cX6_chance 3 (some .long) 2 := ⟨List.mem_of_getElem? (i := 753) (by decide +kernel), List.mem_of_getElem? (i := 751) (by decide +kernel), List.mem_of_getElem? (i := 752) (by decide +kernel), List.mem_of_getElem? (i := 37) (by decide +kernel), ⟨by decide +kernel, by decide +kernel, by decide +kernel⟩⟩
theorem kc_X6_isSpan : CalV yX6_isSpan cX6_isSpan 3 (some .boolean) 2 := ⟨List.mem_of_getElem? (i := 779) (by decide +kernel), List.mem_of_getElem? (i := 778) (by decide +kernel), List.mem_of_getElem? (i := 26) (by decide +kernel), List.mem_of_getElem? (i := 37) (by decide +kernel), ⟨by decide +kernel, by decide +kernel, by decide +kernel⟩⟩
theorem kc_X6_over : CalV yX6_over cX6_over 7 (some .long) 3 := ⟨List.mem_of_getElem? (i := 775) (by decide +kernel), List.mem_of_getElem? (i := 773) (by decide +kernel), List.mem_of_getElem? (i := 774) (by decide +kernel), List.mem_of_getElem? (i := 37) (by decide +kernel), ⟨by decide +kernel, by decide +kernel, by decide +kernel⟩⟩
theorem kc_X6_broken : CalV yX6_broken cX6_broken 7 (some .int) 4 := ⟨List.mem_of_getElem? (i := 783) (by decide +kernel), List.mem_of_getElem? (i := 781) (by decide +kernel), List.mem_of_getElem? (i := 782) (by decide +kernel), List.mem_of_getElem? (i := 37) (by decide +kernel), ⟨by decide +kernel, by decide +kernel, by decide +kernel⟩⟩
theorem kc_X6_nothing : CalV yX6_nothing cX6_nothing 4 (some .long) 1 := ⟨List.mem_of_getElem? (i := 788) (by decide +kernel), List.mem_of_getElem? (i := 786) (by decide +kernel), List.mem_of_getElem? (i := 787) (by decide +kernel), List.mem_of_getElem? (i := 37) (by decide +kernel), ⟨by decide +kernel, by decide +kernel, by decide +kernel⟩⟩
theorem kc_X6_mattersOf : CalV yX6_mattersOf cX6_mattersOf 6 (some .long) 3 := ⟨List.mem_of_getElem? (i := 796) (by decide +kernel), List.mem_of_getElem? (i := 795) (by decide +kernel), List.mem_of_getElem? (i := 27) (by decide +kernel), List.mem_of_getElem? (i := 37) (by decide +kernel), ⟨by decide +kernel, by decide +kernel, by decide +kernel⟩⟩
theorem kc_X6_matters : CalV yX6_matters cX6_matters 4 (some .long) 3 := ⟨List.mem_of_getElem? (i := 792) (by decide +kernel), List.mem_of_getElem? (i := 790) (by decide +kernel), List.mem_of_getElem? (i := 791) (by decide +kernel), List.mem_of_getElem? (i := 37) (by decide +kernel), ⟨by decide +kernel, by decide +kernel, by decide +kernel⟩⟩
theorem kc_X6_most : CalV yX6_most cX6_most 10 (some .int) 2 := ⟨List.mem_of_getElem? (i := 800) (by decide +kernel), List.mem_of_getElem? (i := 798) (by decide +kernel), List.mem_of_getElem? (i := 799) (by decide +kernel), List.mem_of_getElem? (i := 37) (by decide +kernel), ⟨by decide +kernel, by decide +kernel, by decide +kernel⟩⟩
theorem kc_X6_cost : CalV yX6_cost cX6_cost 4 (some .int) 2 := ⟨List.mem_of_getElem? (i := 804) (by decide +kernel), List.mem_of_getElem? (i := 802) (by decide +kernel), List.mem_of_getElem? (i := 803) (by decide +kernel), List.mem_of_getElem? (i := 37) (by decide +kernel), ⟨by decide +kernel, by decide +kernel, by decide +kernel⟩⟩
theorem kc_X6_laid : CalV yX6_laid cX6_laid 7 (some .int) 3 := ⟨List.mem_of_getElem? (i := 815) (by decide +kernel), List.mem_of_getElem? (i := 814) (by decide +kernel), List.mem_of_getElem? (i := 28) (by decide +kernel), List.mem_of_getElem? (i := 37) (by decide +kernel), ⟨by decide +kernel, by decide +kernel, by decide +kernel⟩⟩
theorem kc_X6_lifted : CalV yX6_lifted cX6_lifted 2 none 0 := ⟨List.mem_of_getElem? (i := 819) (by decide +kernel), List.mem_of_getElem? (i := 818) (by decide +kernel), List.mem_of_getElem? (i := 29) (by decide +kernel), List.mem_of_getElem? (i := 37) (by decide +kernel), ⟨by decide +kernel, by decide +kernel, by decide +kernel⟩⟩
theorem kc_X6_plan : CalV yX6_plan cX6_plan 18 (some .int) 6 := ⟨List.mem_of_getElem? (i := 809) (by decide +kernel), List.mem_of_getElem? (i := 807) (by decide +kernel), List.mem_of_getElem? (i := 808) (by decide +kernel), List.mem_of_getElem? (i := 37) (by decide +kernel), ⟨by decide +kernel, by decide +kernel, by decide +kernel⟩⟩
theorem kc_X6_count : CalV yX6_count cX6_count 4 (some .int) 1 := ⟨List.mem_of_getElem? (i := 823) (by decide +kernel), List.mem_of_getElem? (i := 821) (by decide +kernel), List.mem_of_getElem? (i := 822) (by decide +kernel), List.mem_of_getElem? (i := 37) (by decide +kernel), ⟨by decide +kernel, by decide +kernel, by decide +kernel⟩⟩
theorem kc_J6_bitCount_0f7a4 : CalS yJ6_bitCount_0f7a4 cJ6_bitCount_0f7a4 1 (some .int) 1 := ⟨List.mem_of_getElem? (i := 288) (by decide +kernel), List.mem_of_getElem? (i := 287) (by decide +kernel), List.mem_of_getElem? (i := 40) (by decide +kernel), ⟨by decide +kernel, by decide +kernel, by decide +kernel⟩⟩
theorem kc_J13_bitCount_95d88 : CalS yJ13_bitCount_95d88 cJ13_bitCount_95d88 2 (some .int) 1 := ⟨List.mem_of_getElem? (i := 274) (by decide +kernel), List.mem_of_getElem? (i := 273) (by decide +kernel), List.mem_of_getElem? (i := 39) (by decide +kernel), ⟨by decide +kernel, by decide +kernel, by decide +kernel⟩⟩
theorem kc_J9_max_7cf53 : CalS yJ9_max_7cf53 cJ9_max_7cf53 2 (some .int) 2 := ⟨List.mem_of_getElem? (i := 259) (by decide +kernel), List.mem_of_getElem? (i := 258) (by decide +kernel), List.mem_of_getElem? (i := 38) (by decide +kernel), ⟨by decide +kernel, by decide +kernel, by decide +kernel⟩⟩
theorem kc_J9_min_7cf53 : CalS yJ9_min_7cf53 cJ9_min_7cf53 2 (some .int) 2 := ⟨List.mem_of_getElem? (i := 262) (by decide +kernel), List.mem_of_getElem? (i := 261) (by decide +kernel), List.mem_of_getElem? (i := 38) (by decide +kernel), ⟨by decide +kernel, by decide +kernel, by decide +kernel⟩⟩
theorem ml_L_9 : Cond.methodLink RL 9 yX5_init ∈ lw_tbl := List.mem_of_getElem? (i := 44) (by decide +kernel)
theorem ml_L_12 : Cond.methodLink RL 12 yX6_init ∈ lw_tbl := List.mem_of_getElem? (i := 577) (by decide +kernel)
theorem ml_L_13 : Cond.methodLink RL 13 yX5_part ∈ lw_tbl := List.mem_of_getElem? (i := 205) (by decide +kernel)
theorem ml_L_17 : Cond.methodLink RL 17 yX6_part ∈ lw_tbl := List.mem_of_getElem? (i := 661) (by decide +kernel)
theorem ml_L_18 : Cond.methodLink RL 18 yX5_test ∈ lw_tbl := List.mem_of_getElem? (i := 216) (by decide +kernel)
theorem ml_L_22 : Cond.methodLink RL 22 yX6_test ∈ lw_tbl := List.mem_of_getElem? (i := 669) (by decide +kernel)
theorem ml_L_23 : Cond.methodLink RL 23 yX5_noTests ∈ lw_tbl := List.mem_of_getElem? (i := 231) (by decide +kernel)
theorem ml_L_26 : Cond.methodLink RL 26 yX6_noTests ∈ lw_tbl := List.mem_of_getElem? (i := 681) (by decide +kernel)
theorem ml_L_27 : Cond.methodLink RL 27 yX5_bypass ∈ lw_tbl := List.mem_of_getElem? (i := 243) (by decide +kernel)
theorem ml_L_30 : Cond.methodLink RL 30 yX6_bypass ∈ lw_tbl := List.mem_of_getElem? (i := 685) (by decide +kernel)
theorem ml_L_31 : Cond.methodLink RL 31 yX5_bypassed ∈ lw_tbl := List.mem_of_getElem? (i := 264) (by decide +kernel)
theorem ml_L_34 : Cond.methodLink RL 34 yX6_bypassed ∈ lw_tbl := List.mem_of_getElem? (i := 692) (by decide +kernel)
theorem ml_L_35 : Cond.methodLink RL 35 yX5_group ∈ lw_tbl := List.mem_of_getElem? (i := 278) (by decide +kernel)
theorem ml_L_38 : Cond.methodLink RL 38 yX6_group ∈ lw_tbl := List.mem_of_getElem? (i := 700) (by decide +kernel)
theorem ml_L_39 : Cond.methodLink RL 39 yX5_vote ∈ lw_tbl := List.mem_of_getElem? (i := 296) (by decide +kernel)
theorem ml_L_43 : Cond.methodLink RL 43 yX6_vote ∈ lw_tbl := List.mem_of_getElem? (i := 707) (by decide +kernel)
theorem ml_L_44 : Cond.methodLink RL 44 yX5_share ∈ lw_tbl := List.mem_of_getElem? (i := 347) (by decide +kernel)
theorem ml_L_47 : Cond.methodLink RL 47 yX6_share ∈ lw_tbl := List.mem_of_getElem? (i := 717) (by decide +kernel)
theorem ml_L_48 : Cond.methodLink RL 48 yX5_below ∈ lw_tbl := List.mem_of_getElem? (i := 359) (by decide +kernel)
theorem ml_L_51 : Cond.methodLink RL 51 yX6_below ∈ lw_tbl := List.mem_of_getElem? (i := 725) (by decide +kernel)
theorem ml_L_52 : Cond.methodLink RL 52 yX5_shared ∈ lw_tbl := List.mem_of_getElem? (i := 383) (by decide +kernel)
theorem ml_L_55 : Cond.methodLink RL 55 yX6_shared ∈ lw_tbl := List.mem_of_getElem? (i := 746) (by decide +kernel)
theorem ml_L_56 : Cond.methodLink RL 56 yX5_chance ∈ lw_tbl := List.mem_of_getElem? (i := 387) (by decide +kernel)
theorem ml_L_60 : Cond.methodLink RL 60 yX6_chance ∈ lw_tbl := List.mem_of_getElem? (i := 750) (by decide +kernel)
theorem ml_L_61 : Cond.methodLink RL 61 yX5_over ∈ lw_tbl := List.mem_of_getElem? (i := 442) (by decide +kernel)
theorem ml_L_65 : Cond.methodLink RL 65 yX6_over ∈ lw_tbl := List.mem_of_getElem? (i := 772) (by decide +kernel)
theorem ml_L_68 : Cond.methodLink RL 68 yX5_broken ∈ lw_tbl := List.mem_of_getElem? (i := 449) (by decide +kernel)
theorem ml_L_72 : Cond.methodLink RL 72 yX6_broken ∈ lw_tbl := List.mem_of_getElem? (i := 780) (by decide +kernel)
theorem ml_L_73 : Cond.methodLink RL 73 yX5_nothing ∈ lw_tbl := List.mem_of_getElem? (i := 454) (by decide +kernel)
theorem ml_L_77 : Cond.methodLink RL 77 yX6_nothing ∈ lw_tbl := List.mem_of_getElem? (i := 785) (by decide +kernel)
theorem ml_L_78 : Cond.methodLink RL 78 yX5_matters ∈ lw_tbl := List.mem_of_getElem? (i := 467) (by decide +kernel)
theorem ml_L_81 : Cond.methodLink RL 81 yX6_matters ∈ lw_tbl := List.mem_of_getElem? (i := 789) (by decide +kernel)
theorem ml_L_82 : Cond.methodLink RL 82 yX5_most ∈ lw_tbl := List.mem_of_getElem? (i := 479) (by decide +kernel)
theorem ml_L_85 : Cond.methodLink RL 85 yX6_most ∈ lw_tbl := List.mem_of_getElem? (i := 797) (by decide +kernel)
theorem ml_L_86 : Cond.methodLink RL 86 yX5_cost ∈ lw_tbl := List.mem_of_getElem? (i := 487) (by decide +kernel)
theorem ml_L_89 : Cond.methodLink RL 89 yX6_cost ∈ lw_tbl := List.mem_of_getElem? (i := 801) (by decide +kernel)
theorem ml_L_90 : Cond.methodLink RL 90 yX5_plan ∈ lw_tbl := List.mem_of_getElem? (i := 495) (by decide +kernel)
theorem ml_L_94 : Cond.methodLink RL 94 yX6_plan ∈ lw_tbl := List.mem_of_getElem? (i := 806) (by decide +kernel)
theorem ml_L_95 : Cond.methodLink RL 95 yX5_count ∈ lw_tbl := List.mem_of_getElem? (i := 554) (by decide +kernel)
theorem ml_L_99 : Cond.methodLink RL 99 yX6_count ∈ lw_tbl := List.mem_of_getElem? (i := 820) (by decide +kernel)
theorem ml_X0_3 : Cond.methodLink RX0 3 objectInit ∈ lw_tbl := List.mem_of_getElem? (i := 91) (by decide +kernel)
theorem ml_X1_3 : Cond.methodLink RX1 3 objectInit ∈ lw_tbl := List.mem_of_getElem? (i := 132) (by decide +kernel)
theorem ml_X1_44 : Cond.methodLink RX1 44 yX4_partsBelow ∈ lw_tbl := List.mem_of_getElem? (i := 371) (by decide +kernel)
theorem ml_X1_50 : Cond.methodLink RX1 50 yX0_striking ∈ lw_tbl := List.mem_of_getElem? (i := 372) (by decide +kernel)
theorem ml_X1_55 : Cond.methodLink RX1 55 yX4_sizeBelow ∈ lw_tbl := List.mem_of_getElem? (i := 380) (by decide +kernel)
theorem ml_X1_58 : Cond.methodLink RX1 58 yX1_groupsOf ∈ lw_tbl := List.mem_of_getElem? (i := 381) (by decide +kernel)
theorem ml_X1_61 : Cond.methodLink RX1 61 yJ6_bitCount_0f7a4 ∈ lw_tbl := List.mem_of_getElem? (i := 382) (by decide +kernel)
theorem ml_X1_66 : Cond.methodLink RX1 66 yX1_eventsOf ∈ lw_tbl := List.mem_of_getElem? (i := 396) (by decide +kernel)
theorem ml_X1_69 : Cond.methodLink RX1 69 yX1_takeMembers ∈ lw_tbl := List.mem_of_getElem? (i := 402) (by decide +kernel)
theorem ml_X1_73 : Cond.methodLink RX1 73 yX4_actsIn ∈ lw_tbl := List.mem_of_getElem? (i := 407) (by decide +kernel)
theorem ml_X1_77 : Cond.methodLink RX1 77 yX0_size ∈ lw_tbl := List.mem_of_getElem? (i := 408) (by decide +kernel)
theorem ml_X1_80 : Cond.methodLink RX1 80 yX0_struckBy ∈ lw_tbl := List.mem_of_getElem? (i := 412) (by decide +kernel)
theorem ml_X1_83 : (RX1, 83, yX5_packed, RX5) ∈ nestW := by decide +kernel
theorem ml_X1_87 : Cond.methodLink RX1 87 yX0_shareOf ∈ lw_tbl := List.mem_of_getElem? (i := 417) (by decide +kernel)
theorem ml_X1_90 : Cond.methodLink RX1 90 yX1_workIn ∈ lw_tbl := List.mem_of_getElem? (i := 421) (by decide +kernel)
theorem ml_X1_94 : Cond.methodLink RX1 94 yX1_takeSharesOn ∈ lw_tbl := List.mem_of_getElem? (i := 430) (by decide +kernel)
theorem ml_X1_97 : Cond.methodLink RX1 97 yX1_sum ∈ lw_tbl := List.mem_of_getElem? (i := 435) (by decide +kernel)
theorem ml_X1_101 : Cond.methodLink RX1 101 yX2_shareForNothing ∈ lw_tbl := List.mem_of_getElem? (i := 463) (by decide +kernel)
theorem ml_X1_106 : Cond.methodLink RX1 106 yX1_weightAt ∈ lw_tbl := List.mem_of_getElem? (i := 475) (by decide +kernel)
theorem ml_X1_110 : Cond.methodLink RX1 110 arraycopyName ∈ lw_tbl := List.mem_of_getElem? (i := 439) (by decide +kernel)
theorem ml_X1_118 : (RX1, 118, yX5_hasBit, RX5) ∈ nestW := by decide +kernel
theorem ml_X1_121 : Cond.methodLink RX1 121 yX2_shareOn ∈ lw_tbl := List.mem_of_getElem? (i := 434) (by decide +kernel)
theorem ml_X2_3 : Cond.methodLink RX2 3 objectInit ∈ lw_tbl := List.mem_of_getElem? (i := 55) (by decide +kernel)
theorem ml_X2_41 : Cond.methodLink RX2 41 yX2_testsUpTo ∈ lw_tbl := List.mem_of_getElem? (i := 239) (by decide +kernel)
theorem ml_X2_45 : Cond.methodLink RX2 45 yX2_daysInWord ∈ lw_tbl := List.mem_of_getElem? (i := 254) (by decide +kernel)
theorem ml_X2_49 : Cond.methodLink RX2 49 yJ13_bitCount_95d88 ∈ lw_tbl := List.mem_of_getElem? (i := 272) (by decide +kernel)
theorem ml_X2_55 : Cond.methodLink RX2 55 yX2_shareAfter ∈ lw_tbl := List.mem_of_getElem? (i := 355) (by decide +kernel)
theorem ml_X2_59 : Cond.methodLink RX2 59 Lib.Math.min.name ∈ lw_tbl := List.mem_of_getElem? (i := 260) (by decide +kernel)
theorem ml_X2_64 : Cond.methodLink RX2 64 Lib.Math.max.name ∈ lw_tbl := List.mem_of_getElem? (i := 257) (by decide +kernel)
theorem ml_X3_3 : Cond.methodLink RX3 3 objectInit ∈ lw_tbl := List.mem_of_getElem? (i := 166) (by decide +kernel)
theorem ml_X3_33 : Cond.methodLink RX3 33 yX1_startFailing ∈ lw_tbl := List.mem_of_getElem? (i := 511) (by decide +kernel)
theorem ml_X3_39 : Cond.methodLink RX3 39 yX1_memberCount ∈ lw_tbl := List.mem_of_getElem? (i := 512) (by decide +kernel)
theorem ml_X3_43 : Cond.methodLink RX3 43 yX3_takeChoices ∈ lw_tbl := List.mem_of_getElem? (i := 516) (by decide +kernel)
theorem ml_X3_46 : Cond.methodLink RX3 46 yX3_costOfChoices ∈ lw_tbl := List.mem_of_getElem? (i := 520) (by decide +kernel)
theorem ml_X3_49 : Cond.methodLink RX3 49 yX3_keepsLaw ∈ lw_tbl := List.mem_of_getElem? (i := 532) (by decide +kernel)
theorem ml_X3_53 : Cond.methodLink RX3 53 yX3_toldChoices ∈ lw_tbl := List.mem_of_getElem? (i := 542) (by decide +kernel)
theorem ml_X3_56 : Cond.methodLink RX3 56 yX1_memberAt ∈ lw_tbl := List.mem_of_getElem? (i := 524) (by decide +kernel)
theorem ml_X3_60 : Cond.methodLink RX3 60 yX2_costOf ∈ lw_tbl := List.mem_of_getElem? (i := 528) (by decide +kernel)
theorem ml_X3_65 : Cond.methodLink RX3 65 yX2_shareAfter ∈ lw_tbl := List.mem_of_getElem? (i := 536) (by decide +kernel)
theorem ml_X3_69 : Cond.methodLink RX3 69 yX1_setShare ∈ lw_tbl := List.mem_of_getElem? (i := 537) (by decide +kernel)
theorem ml_X3_73 : Cond.methodLink RX3 73 yX1_sum ∈ lw_tbl := List.mem_of_getElem? (i := 541) (by decide +kernel)
theorem ml_X4_3 : Cond.methodLink RX4 3 objectInit ∈ lw_tbl := List.mem_of_getElem? (i := 107) (by decide +kernel)
theorem ml_X4_32 : Cond.methodLink RX4 32 yJ6_bitCount_0f7a4 ∈ lw_tbl := List.mem_of_getElem? (i := 320) (by decide +kernel)
theorem ml_X4_38 : Cond.methodLink RX4 38 yX4_partsOfInput ∈ lw_tbl := List.mem_of_getElem? (i := 312) (by decide +kernel)
theorem ml_X4_41 : Cond.methodLink RX4 41 yX4_sizeBelow ∈ lw_tbl := List.mem_of_getElem? (i := 316) (by decide +kernel)
theorem ml_X4_44 : Cond.methodLink RX4 44 yX4_workOutActingSets ∈ lw_tbl := List.mem_of_getElem? (i := 321) (by decide +kernel)
theorem ml_X4_48 : (RX4, 48, yX5_spread, RX5) ∈ nestW := by decide +kernel
theorem ml_X4_52 : Cond.methodLink RX4 52 yX4_actingInputs ∈ lw_tbl := List.mem_of_getElem? (i := 331) (by decide +kernel)
theorem ml_X4_55 : Cond.methodLink RX4 55 yX4_inputActs ∈ lw_tbl := List.mem_of_getElem? (i := 335) (by decide +kernel)
theorem ml_X4_59 : (RX4, 59, yX5_hasBit, RX5) ∈ nestW := by decide +kernel
theorem ml_X4_62 : (RX4, 62, yX5_packed, RX5) ∈ nestW := by decide +kernel
theorem ml_X4_65 : Cond.methodLink RX4 65 yX4_actsIn ∈ lw_tbl := List.mem_of_getElem? (i := 343) (by decide +kernel)
theorem ml_X5_1 : Cond.methodLink RX5 1 objectInit ∈ lw_tbl := List.mem_of_getElem? (i := 47) (by decide +kernel)
theorem ml_X5_9 : (RX5, 9, yX2_init, RX5) ∈ nestW := by decide +kernel
theorem ml_X5_18 : (RX5, 18, yX0_init, RX5) ∈ nestW := by decide +kernel
theorem ml_X5_25 : (RX5, 25, yX4_init, RX5) ∈ nestW := by decide +kernel
theorem ml_X5_32 : Cond.methodLink RX5 32 yX1_init ∈ lw_tbl := List.mem_of_getElem? (i := 129) (by decide +kernel)
theorem ml_X5_41 : Cond.methodLink RX5 41 yX3_init ∈ lw_tbl := List.mem_of_getElem? (i := 163) (by decide +kernel)
theorem ml_X5_52 : Cond.methodLink RX5 52 yX5_isShare ∈ lw_tbl := List.mem_of_getElem? (i := 209) (by decide +kernel)
theorem ml_X5_56 : Cond.methodLink RX5 56 yX2_add ∈ lw_tbl := List.mem_of_getElem? (i := 212) (by decide +kernel)
theorem ml_X5_60 : Cond.methodLink RX5 60 yX2_has ∈ lw_tbl := List.mem_of_getElem? (i := 220) (by decide +kernel)
theorem ml_X5_63 : Cond.methodLink RX5 63 yX5_isDay ∈ lw_tbl := List.mem_of_getElem? (i := 224) (by decide +kernel)
theorem ml_X5_66 : Cond.methodLink RX5 66 yX2_addTest ∈ lw_tbl := List.mem_of_getElem? (i := 227) (by decide +kernel)
theorem ml_X5_70 : Cond.methodLink RX5 70 yX2_dropTests ∈ lw_tbl := List.mem_of_getElem? (i := 235) (by decide +kernel)
theorem ml_X5_73 : Cond.methodLink RX5 73 yX5_areDays ∈ lw_tbl := List.mem_of_getElem? (i := 247) (by decide +kernel)
theorem ml_X5_77 : Cond.methodLink RX5 77 yX2_addBypass ∈ lw_tbl := List.mem_of_getElem? (i := 250) (by decide +kernel)
theorem ml_X5_80 : Cond.methodLink RX5 80 yX2_bypassedDays ∈ lw_tbl := List.mem_of_getElem? (i := 268) (by decide +kernel)
theorem ml_X5_83 : Cond.methodLink RX5 83 yX2_hasAll ∈ lw_tbl := List.mem_of_getElem? (i := 282) (by decide +kernel)
theorem ml_X5_86 : Cond.methodLink RX5 86 yJ6_bitCount_0f7a4 ∈ lw_tbl := List.mem_of_getElem? (i := 286) (by decide +kernel)
theorem ml_X5_92 : Cond.methodLink RX5 92 yX0_add ∈ lw_tbl := List.mem_of_getElem? (i := 292) (by decide +kernel)
theorem ml_X5_94 : Cond.methodLink RX5 94 yX5_isInput ∈ lw_tbl := List.mem_of_getElem? (i := 300) (by decide +kernel)
theorem ml_X5_97 : Cond.methodLink RX5 97 yX4_add ∈ lw_tbl := List.mem_of_getElem? (i := 308) (by decide +kernel)
theorem ml_X5_100 : Cond.methodLink RX5 100 yX2_shareOn ∈ lw_tbl := List.mem_of_getElem? (i := 351) (by decide +kernel)
theorem ml_X5_103 : Cond.methodLink RX5 103 yX4_has ∈ lw_tbl := List.mem_of_getElem? (i := 304) (by decide +kernel)
theorem ml_X5_104 : Cond.methodLink RX5 104 yX4_partsBelow ∈ lw_tbl := List.mem_of_getElem? (i := 363) (by decide +kernel)
theorem ml_X5_107 : Cond.methodLink RX5 107 yX1_groupsOf ∈ lw_tbl := List.mem_of_getElem? (i := 367) (by decide +kernel)
theorem ml_X5_110 : Cond.methodLink RX5 110 yX1_eventsOf ∈ lw_tbl := List.mem_of_getElem? (i := 376) (by decide +kernel)
theorem ml_X5_115 : Cond.methodLink RX5 115 yX1_hasTooManyEvents ∈ lw_tbl := List.mem_of_getElem? (i := 392) (by decide +kernel)
theorem ml_X5_120 : Cond.methodLink RX5 120 yX1_startFailing ∈ lw_tbl := List.mem_of_getElem? (i := 398) (by decide +kernel)
theorem ml_X5_124 : Cond.methodLink RX5 124 yX1_onDay ∈ lw_tbl := List.mem_of_getElem? (i := 426) (by decide +kernel)
theorem ml_X5_128 : Cond.methodLink RX5 128 yX5_areSummedDays ∈ lw_tbl := List.mem_of_getElem? (i := 446) (by decide +kernel)
theorem ml_X5_133 : Cond.methodLink RX5 133 yX4_sizeBelow ∈ lw_tbl := List.mem_of_getElem? (i := 458) (by decide +kernel)
theorem ml_X5_136 : Cond.methodLink RX5 136 yX1_forNothing ∈ lw_tbl := List.mem_of_getElem? (i := 459) (by decide +kernel)
theorem ml_X5_139 : Cond.methodLink RX5 139 yX1_weightOf ∈ lw_tbl := List.mem_of_getElem? (i := 471) (by decide +kernel)
theorem ml_X5_143 : Cond.methodLink RX5 143 yX1_weightiestPart ∈ lw_tbl := List.mem_of_getElem? (i := 483) (by decide +kernel)
theorem ml_X5_146 : Cond.methodLink RX5 146 yX2_changeCost ∈ lw_tbl := List.mem_of_getElem? (i := 491) (by decide +kernel)
theorem ml_X5_149 : Cond.methodLink RX5 149 yX5_isInterval ∈ lw_tbl := List.mem_of_getElem? (i := 499) (by decide +kernel)
theorem ml_X5_154 : Cond.methodLink RX5 154 yX3_setIntervals ∈ lw_tbl := List.mem_of_getElem? (i := 503) (by decide +kernel)
theorem ml_X5_158 : Cond.methodLink RX5 158 yX3_findCheapest ∈ lw_tbl := List.mem_of_getElem? (i := 507) (by decide +kernel)
theorem ml_X5_162 : Cond.methodLink RX5 162 yX3_cheapestCost ∈ lw_tbl := List.mem_of_getElem? (i := 546) (by decide +kernel)
theorem ml_X5_166 : Cond.methodLink RX5 166 yX3_cheapestChoices ∈ lw_tbl := List.mem_of_getElem? (i := 550) (by decide +kernel)
theorem ml_X5_169 : Cond.methodLink RX5 169 yX2_size ∈ lw_tbl := List.mem_of_getElem? (i := 558) (by decide +kernel)
theorem ml_X5_172 : Cond.methodLink RX5 172 yX2_allTests ∈ lw_tbl := List.mem_of_getElem? (i := 562) (by decide +kernel)
theorem ml_X5_175 : Cond.methodLink RX5 175 yX2_allBypasses ∈ lw_tbl := List.mem_of_getElem? (i := 566) (by decide +kernel)
theorem ml_X5_178 : Cond.methodLink RX5 178 yX0_size ∈ lw_tbl := List.mem_of_getElem? (i := 570) (by decide +kernel)
theorem ml_X5_179 : Cond.methodLink RX5 179 yX4_size ∈ lw_tbl := List.mem_of_getElem? (i := 571) (by decide +kernel)
theorem ml_X5_180 : Cond.methodLink RX5 180 yX5_hasBit ∈ lw_tbl := List.mem_of_getElem? (i := 328) (by decide +kernel)
theorem ml_X6_1 : Cond.methodLink RX6 1 objectInit ∈ lw_tbl := List.mem_of_getElem? (i := 580) (by decide +kernel)
theorem ml_X6_78 : Cond.methodLink RX6 78 yX6_in ∈ lw_tbl := List.mem_of_getElem? (i := 666) (by decide +kernel)
theorem ml_X6_89 : Cond.methodLink RX6 89 yX6_isPart ∈ lw_tbl := List.mem_of_getElem? (i := 673) (by decide +kernel)
theorem ml_X6_93 : Cond.methodLink RX6 93 yX6_isDay ∈ lw_tbl := List.mem_of_getElem? (i := 677) (by decide +kernel)
theorem ml_X6_96 : Cond.methodLink RX6 96 yX6_areDays ∈ lw_tbl := List.mem_of_getElem? (i := 689) (by decide +kernel)
theorem ml_X6_103 : Cond.methodLink RX6 103 yX6_isBypassed ∈ lw_tbl := List.mem_of_getElem? (i := 696) (by decide +kernel)
theorem ml_X6_106 : Cond.methodLink RX6 106 yX6_bits ∈ lw_tbl := List.mem_of_getElem? (i := 704) (by decide +kernel)
theorem ml_X6_117 : Cond.methodLink RX6 117 yX6_isInput ∈ lw_tbl := List.mem_of_getElem? (i := 712) (by decide +kernel)
theorem ml_X6_120 : Cond.methodLink RX6 120 yX6_shareOf ∈ lw_tbl := List.mem_of_getElem? (i := 721) (by decide +kernel)
theorem ml_X6_124 : Cond.methodLink RX6 124 yX6_partsOf ∈ lw_tbl := List.mem_of_getElem? (i := 734) (by decide +kernel)
theorem ml_X6_127 : Cond.methodLink RX6 127 yX6_groupsOf ∈ lw_tbl := List.mem_of_getElem? (i := 738) (by decide +kernel)
theorem ml_X6_130 : Cond.methodLink RX6 130 yX6_isVote ∈ lw_tbl := List.mem_of_getElem? (i := 729) (by decide +kernel)
theorem ml_X6_135 : Cond.methodLink RX6 135 yX6_eventsOf ∈ lw_tbl := List.mem_of_getElem? (i := 742) (by decide +kernel)
theorem ml_X6_141 : Cond.methodLink RX6 141 yX6_does ∈ lw_tbl := List.mem_of_getElem? (i := 768) (by decide +kernel)
theorem ml_X6_144 : Cond.methodLink RX6 144 yX6_adds ∈ lw_tbl := List.mem_of_getElem? (i := 760) (by decide +kernel)
theorem ml_X6_148 : Cond.methodLink RX6 148 yX6_sums ∈ lw_tbl := List.mem_of_getElem? (i := 764) (by decide +kernel)
theorem ml_X6_156 : Cond.methodLink RX6 156 yX6_chanceOf ∈ lw_tbl := List.mem_of_getElem? (i := 756) (by decide +kernel)
theorem ml_X6_160 : Cond.methodLink RX6 160 yX6_isSpan ∈ lw_tbl := List.mem_of_getElem? (i := 776) (by decide +kernel)
theorem ml_X6_165 : Cond.methodLink RX6 165 yX6_mattersOf ∈ lw_tbl := List.mem_of_getElem? (i := 793) (by decide +kernel)
theorem ml_X6_175 : Cond.methodLink RX6 175 yX6_laid ∈ lw_tbl := List.mem_of_getElem? (i := 812) (by decide +kernel)
theorem ml_X6_179 : Cond.methodLink RX6 179 yX6_lifted ∈ lw_tbl := List.mem_of_getElem? (i := 816) (by decide +kernel)
theorem kk_X2_67 : Cond.constantLong RX2 67 (-1) ∈ lw_tbl := List.mem_of_getElem? (i := 263) (by decide +kernel)
theorem kk_J13_314 : Cond.constantLong RJ13 314 (6148914691236517205) ∈ lw_tbl := List.mem_of_getElem? (i := 275) (by decide +kernel)
theorem kk_J13_316 : Cond.constantLong RJ13 316 (3689348814741910323) ∈ lw_tbl := List.mem_of_getElem? (i := 276) (by decide +kernel)
theorem kk_J13_318 : Cond.constantLong RJ13 318 (1085102592571150095) ∈ lw_tbl := List.mem_of_getElem? (i := 277) (by decide +kernel)
theorem kk_J6_265 : Cond.constant RJ6 265 (1431655765) ∈ lw_tbl := List.mem_of_getElem? (i := 289) (by decide +kernel)
theorem kk_J6_266 : Cond.constant RJ6 266 (858993459) ∈ lw_tbl := List.mem_of_getElem? (i := 290) (by decide +kernel)
theorem kk_J6_267 : Cond.constant RJ6 267 (252645135) ∈ lw_tbl := List.mem_of_getElem? (i := 291) (by decide +kernel)
theorem kk_X5_113 : Cond.constantLong RX5 113 (-1) ∈ lw_tbl := List.mem_of_getElem? (i := 391) (by decide +kernel)
theorem kk_X5_118 : Cond.constantLong RX5 118 (-2) ∈ lw_tbl := List.mem_of_getElem? (i := 397) (by decide +kernel)
theorem kk_X1_116 : Cond.constantLong RX1 116 (64) ∈ lw_tbl := List.mem_of_getElem? (i := 425) (by decide +kernel)
theorem kk_X5_131 : Cond.constantLong RX5 131 (281474976710656) ∈ lw_tbl := List.mem_of_getElem? (i := 453) (by decide +kernel)
theorem kk_X5_152 : Cond.constantLong RX5 152 (28147497671065600) ∈ lw_tbl := List.mem_of_getElem? (i := 502) (by decide +kernel)
theorem kk_X6_87 : Cond.constantLong RX6 87 (64) ∈ lw_tbl := List.mem_of_getElem? (i := 665) (by decide +kernel)
theorem kk_X6_85 : Cond.constantLong RX6 85 (999) ∈ lw_tbl := List.mem_of_getElem? (i := 680) (by decide +kernel)
theorem kk_X6_115 : Cond.constantLong RX6 115 (4) ∈ lw_tbl := List.mem_of_getElem? (i := 711) (by decide +kernel)
theorem kk_X6_113 : Cond.constantLong RX6 113 (12) ∈ lw_tbl := List.mem_of_getElem? (i := 716) (by decide +kernel)
theorem kk_X6_133 : Cond.constantLong RX6 133 (2) ∈ lw_tbl := List.mem_of_getElem? (i := 733) (by decide +kernel)
theorem kk_X6_152 : Cond.constantLong RX6 152 (-1) ∈ lw_tbl := List.mem_of_getElem? (i := 754) (by decide +kernel)
theorem kk_X6_154 : Cond.constantLong RX6 154 (-2) ∈ lw_tbl := List.mem_of_getElem? (i := 755) (by decide +kernel)
theorem kk_X6_163 : Cond.constantLong RX6 163 (281474976710656) ∈ lw_tbl := List.mem_of_getElem? (i := 784) (by decide +kernel)
theorem kk_X6_169 : Cond.constantLong RX6 169 (1000) ∈ lw_tbl := List.mem_of_getElem? (i := 805) (by decide +kernel)
theorem kk_X6_171 : Cond.constantLong RX6 171 (100) ∈ lw_tbl := List.mem_of_getElem? (i := 810) (by decide +kernel)
theorem kk_X6_173 : Cond.constantLong RX6 173 (28147497671065600) ∈ lw_tbl := List.mem_of_getElem? (i := 811) (by decide +kernel)
theorem kk_L_66 : Cond.constantLong RL 66 (4294967295) ∈ lw_tbl := List.mem_of_getElem? (i := 824) (by decide +kernel)
theorem kc_min : Cond.static Lib.Math.min.name ∈ lw_tbl ∧ Cond.initialized "java/lang/Math" ∈ lw_tbl ∧ Cond.code Lib.Math.min.name Lib.Math.min.code 2 (some .int) ∈ lw_tbl := ⟨List.mem_of_getElem? (i := 261) (by decide +kernel), List.mem_of_getElem? (i := 38) (by decide +kernel), List.mem_of_getElem? (i := 262) (by decide +kernel)⟩
theorem kc_max : Cond.static Lib.Math.max.name ∈ lw_tbl ∧ Cond.initialized "java/lang/Math" ∈ lw_tbl ∧ Cond.code Lib.Math.max.name Lib.Math.max.code 2 (some .int) ∈ lw_tbl := ⟨List.mem_of_getElem? (i := 258) (by decide +kernel), List.mem_of_getElem? (i := 38) (by decide +kernel), List.mem_of_getElem? (i := 259) (by decide +kernel)⟩
theorem kc_copy : Cond.native arraycopyName ∈ lw_tbl ∧ Cond.static arraycopyName ∈ lw_tbl ∧ Cond.initialized "java/lang/System" ∈ lw_tbl := ⟨List.mem_of_getElem? (i := 441) (by decide +kernel), List.mem_of_getElem? (i := 440) (by decide +kernel), List.mem_of_getElem? (i := 41) (by decide +kernel)⟩
theorem kc_obj : Cond.instanceMethod objectInit ∈ lw_tbl ∧ Cond.code objectInit ⟨#[0xb1]⟩ 1 none ∈ lw_tbl := ⟨List.mem_of_getElem? (i := 48) (by decide +kernel), List.mem_of_getElem? (i := 49) (by decide +kernel)⟩
theorem ka_int : Cond.arrayClass .int ∈ lw_tbl := List.mem_of_getElem? (i := 84) (by decide +kernel)
theorem ka_long : Cond.arrayClass .long ∈ lw_tbl := List.mem_of_getElem? (i := 85) (by decide +kernel)
theorem ka_boolean : Cond.arrayClass .boolean ∈ lw_tbl := List.mem_of_getElem? (i := 660) (by decide +kernel)
theorem kn_X0 : Cond.instantiable RX0 3 ∈ lw_tbl ∧ Cond.initialized RX0 ∈ lw_tbl := ⟨List.mem_of_getElem? (i := 87) (by decide +kernel), List.mem_of_getElem? (i := 33) (by decide +kernel)⟩
theorem kn_X1 : Cond.instantiable RX1 9 ∈ lw_tbl ∧ Cond.initialized RX1 ∈ lw_tbl := ⟨List.mem_of_getElem? (i := 128) (by decide +kernel), List.mem_of_getElem? (i := 35) (by decide +kernel)⟩
theorem kn_X2 : Cond.instantiable RX2 9 ∈ lw_tbl ∧ Cond.initialized RX2 ∈ lw_tbl := ⟨List.mem_of_getElem? (i := 51) (by decide +kernel), List.mem_of_getElem? (i := 32) (by decide +kernel)⟩
theorem kn_X3 : Cond.instantiable RX3 6 ∈ lw_tbl ∧ Cond.initialized RX3 ∈ lw_tbl := ⟨List.mem_of_getElem? (i := 162) (by decide +kernel), List.mem_of_getElem? (i := 36) (by decide +kernel)⟩
theorem kn_X4 : Cond.instantiable RX4 6 ∈ lw_tbl ∧ Cond.initialized RX4 ∈ lw_tbl := ⟨List.mem_of_getElem? (i := 103) (by decide +kernel), List.mem_of_getElem? (i := 34) (by decide +kernel)⟩
theorem kn_X5 : Cond.instantiable RX5 6 ∈ lw_tbl ∧ Cond.initialized RX5 ∈ lw_tbl := ⟨List.mem_of_getElem? (i := 43) (by decide +kernel), List.mem_of_getElem? (i := 31) (by decide +kernel)⟩
theorem kn_X6 : Cond.instantiable RX6 26 ∈ lw_tbl ∧ Cond.initialized RX6 ∈ lw_tbl := ⟨List.mem_of_getElem? (i := 576) (by decide +kernel), List.mem_of_getElem? (i := 37) (by decide +kernel)⟩
theorem cl_L_7 : Cond.classLink RL 7 RX5 ∈ lw_tbl := List.mem_of_getElem? (i := 42) (by decide +kernel)
theorem cl_X5_7 : Cond.classLink RX5 7 RX2 ∈ lw_tbl := List.mem_of_getElem? (i := 50) (by decide +kernel)
theorem cl_X5_16 : Cond.classLink RX5 16 RX0 ∈ lw_tbl := List.mem_of_getElem? (i := 86) (by decide +kernel)
theorem cl_X5_23 : Cond.classLink RX5 23 RX4 ∈ lw_tbl := List.mem_of_getElem? (i := 102) (by decide +kernel)
theorem cl_X5_30 : Cond.classLink RX5 30 RX1 ∈ lw_tbl := List.mem_of_getElem? (i := 127) (by decide +kernel)
theorem cl_X5_39 : Cond.classLink RX5 39 RX3 ∈ lw_tbl := List.mem_of_getElem? (i := 161) (by decide +kernel)
theorem cl_L_10 : Cond.classLink RL 10 RX6 ∈ lw_tbl := List.mem_of_getElem? (i := 575) (by decide +kernel)
end
section
abbrev ctys (cI cL : ClassId) : List (ClassId × FieldType) := [(cI, .int), (cL, .long)]
/-- the system under proof: its objects and rows -/
def cw (ad : Nat → Nat) (cI cL : ClassId) (S : MS) : va_W := [(ad 0, .inr (5, [.ref (ad 1), .ref (ad 2), .ref (ad 3), .ref (ad 4), .ref (ad 5), .ref (ad 22)])),
  (ad 1, .inr (2, [.ref (ad 6), .ref (ad 7), .ref (ad 8), .ref (ad 9), .ref (ad 10), .ref (ad 11), .ref (ad 23), .int (S.2.2 0), .int (S.2.2 1)])),
  (ad 2, .inr (0, [.ref (ad 12), .ref (ad 13), .int (S.2.2 2)])),
  (ad 3, .inr (4, [.ref (ad 14), .ref (ad 15), .ref (ad 16), .ref (ad 17), .ref (ad 24), .int (S.2.2 3)])),
  (ad 4, .inr (1, [.ref (ad 1), .ref (ad 2), .ref (ad 3), .ref (ad 25), .ref (ad 26), .ref (ad 18), .ref (ad 19), .int (S.2.2 4), .int (S.2.2 5)])),
  (ad 5, .inr (3, [.ref (ad 1), .ref (ad 4), .ref (ad 20), .ref (ad 21), .int (S.2.2 6), .int (S.2.2 7)])),
  (ad 6, .inl (cI, 12, .inl (S.1 0))),
  (ad 7, .inl (cI, 12, .inl (S.1 1))),
  (ad 8, .inl (cI, 12, .inl (S.1 2))),
  (ad 9, .inl (cI, 12, .inl (S.1 3))),
  (ad 10, .inl (cI, 12, .inl (S.1 4))),
  (ad 11, .inl (cI, 144, .inl (S.1 5))),
  (ad 12, .inl (cI, 4, .inl (S.1 6))),
  (ad 13, .inl (cI, 4, .inl (S.1 7))),
  (ad 14, .inl (cI, 12, .inl (S.1 8))),
  (ad 15, .inl (cI, 12, .inl (S.1 9))),
  (ad 16, .inl (cI, 48, .inl (S.1 10))),
  (ad 17, .inl (cI, 12, .inl (S.1 11))),
  (ad 18, .inl (cI, 8, .inl (S.1 12))),
  (ad 19, .inl (cI, 8, .inl (S.1 13))),
  (ad 20, .inl (cI, 3, .inl (S.1 14))),
  (ad 21, .inl (cI, 3, .inl (S.1 15))),
  (ad 22, .inl (cI, 4, .inl (S.1 16))),
  (ad 23, .inl (cL, 192, .inr (.inl (S.2.1 0)))),
  (ad 24, .inl (cL, 48, .inr (.inl (S.2.1 1)))),
  (ad 25, .inl (cL, 256, .inr (.inl (S.2.1 2)))),
  (ad 26, .inl (cL, 256, .inr (.inl (S.2.1 3))))]
abbrev rtys (cI cL : ClassId) : List (ClassId × FieldType) := [(cI, .int), (cL, .boolean)]
/-- the reference: its object and rows -/
def rw_ (ad : Nat → Nat) (cI cL : ClassId) (S : MS) : va_W := [(ad 0, .inr (6, [.int (S.2.2 0), .ref (ad 1), .ref (ad 2), .ref (ad 3), .ref (ad 4), .ref (ad 5), .ref (ad 6), .ref (ad 7), .ref (ad 8), .int (S.2.2 1), .ref (ad 9), .ref (ad 10), .ref (ad 11), .int (S.2.2 2), .ref (ad 12), .ref (ad 13), .int (S.2.2 3), .ref (ad 14), .ref (ad 15), .ref (ad 16), .ref (ad 17), .ref (ad 21), .int (S.2.2 4), .ref (ad 18), .ref (ad 19), .ref (ad 20)])),
  (ad 1, .inl (cI, 12, .inl (S.1 0))),
  (ad 2, .inl (cI, 12, .inl (S.1 1))),
  (ad 3, .inl (cI, 12, .inl (S.1 2))),
  (ad 4, .inl (cI, 12, .inl (S.1 3))),
  (ad 5, .inl (cI, 12, .inl (S.1 4))),
  (ad 6, .inl (cI, 144, .inl (S.1 5))),
  (ad 7, .inl (cI, 12, .inl (S.1 6))),
  (ad 8, .inl (cI, 12, .inl (S.1 7))),
  (ad 9, .inl (cI, 20, .inl (S.1 8))),
  (ad 10, .inl (cI, 20, .inl (S.1 9))),
  (ad 11, .inl (cI, 20, .inl (S.1 10))),
  (ad 12, .inl (cI, 4, .inl (S.1 11))),
  (ad 13, .inl (cI, 4, .inl (S.1 12))),
  (ad 14, .inl (cI, 12, .inl (S.1 13))),
  (ad 15, .inl (cI, 12, .inl (S.1 14))),
  (ad 16, .inl (cI, 48, .inl (S.1 15))),
  (ad 17, .inl (cI, 12, .inl (S.1 16))),
  (ad 18, .inl (cI, 24, .inl (S.1 17))),
  (ad 19, .inl (cI, 24, .inl (S.1 18))),
  (ad 20, .inl (cI, 3, .inl (S.1 19))),
  (ad 21, .inl (cL, 12, .inl (S.1 20)))]
theorem cI_0 {ad : Nat → Nat} {cI cL : ClassId} {S : MS} : (cw ad cI cL S)[6]? = some (ad 6, .inl (cI, 12, .inl (S.1 0))) := rfl
theorem cIs_0 {ad : Nat → Nat} {cI cL : ClassId} {S : MS} {i : Nat} {x : Int32} : (cw ad cI cL S).set 6 (ad 6, .inl (cI, 12, .inl (upd (S.1 0) i x))) = cw ad cI cL (uI S 0 i x) := rfl
theorem cI_1 {ad : Nat → Nat} {cI cL : ClassId} {S : MS} : (cw ad cI cL S)[7]? = some (ad 7, .inl (cI, 12, .inl (S.1 1))) := rfl
theorem cIs_1 {ad : Nat → Nat} {cI cL : ClassId} {S : MS} {i : Nat} {x : Int32} : (cw ad cI cL S).set 7 (ad 7, .inl (cI, 12, .inl (upd (S.1 1) i x))) = cw ad cI cL (uI S 1 i x) := rfl
theorem cI_2 {ad : Nat → Nat} {cI cL : ClassId} {S : MS} : (cw ad cI cL S)[8]? = some (ad 8, .inl (cI, 12, .inl (S.1 2))) := rfl
theorem cIs_2 {ad : Nat → Nat} {cI cL : ClassId} {S : MS} {i : Nat} {x : Int32} : (cw ad cI cL S).set 8 (ad 8, .inl (cI, 12, .inl (upd (S.1 2) i x))) = cw ad cI cL (uI S 2 i x) := rfl
theorem cI_3 {ad : Nat → Nat} {cI cL : ClassId} {S : MS} : (cw ad cI cL S)[9]? = some (ad 9, .inl (cI, 12, .inl (S.1 3))) := rfl
theorem cIs_3 {ad : Nat → Nat} {cI cL : ClassId} {S : MS} {i : Nat} {x : Int32} : (cw ad cI cL S).set 9 (ad 9, .inl (cI, 12, .inl (upd (S.1 3) i x))) = cw ad cI cL (uI S 3 i x) := rfl
theorem cI_4 {ad : Nat → Nat} {cI cL : ClassId} {S : MS} : (cw ad cI cL S)[10]? = some (ad 10, .inl (cI, 12, .inl (S.1 4))) := rfl
theorem cIs_4 {ad : Nat → Nat} {cI cL : ClassId} {S : MS} {i : Nat} {x : Int32} : (cw ad cI cL S).set 10 (ad 10, .inl (cI, 12, .inl (upd (S.1 4) i x))) = cw ad cI cL (uI S 4 i x) := rfl
theorem cI_5 {ad : Nat → Nat} {cI cL : ClassId} {S : MS} : (cw ad cI cL S)[11]? = some (ad 11, .inl (cI, 144, .inl (S.1 5))) := rfl
theorem cIs_5 {ad : Nat → Nat} {cI cL : ClassId} {S : MS} {i : Nat} {x : Int32} : (cw ad cI cL S).set 11 (ad 11, .inl (cI, 144, .inl (upd (S.1 5) i x))) = cw ad cI cL (uI S 5 i x) := rfl
theorem cI_6 {ad : Nat → Nat} {cI cL : ClassId} {S : MS} : (cw ad cI cL S)[12]? = some (ad 12, .inl (cI, 4, .inl (S.1 6))) := rfl
theorem cIs_6 {ad : Nat → Nat} {cI cL : ClassId} {S : MS} {i : Nat} {x : Int32} : (cw ad cI cL S).set 12 (ad 12, .inl (cI, 4, .inl (upd (S.1 6) i x))) = cw ad cI cL (uI S 6 i x) := rfl
theorem cI_7 {ad : Nat → Nat} {cI cL : ClassId} {S : MS} : (cw ad cI cL S)[13]? = some (ad 13, .inl (cI, 4, .inl (S.1 7))) := rfl
theorem cIs_7 {ad : Nat → Nat} {cI cL : ClassId} {S : MS} {i : Nat} {x : Int32} : (cw ad cI cL S).set 13 (ad 13, .inl (cI, 4, .inl (upd (S.1 7) i x))) = cw ad cI cL (uI S 7 i x) := rfl
theorem cI_8 {ad : Nat → Nat} {cI cL : ClassId} {S : MS} : (cw ad cI cL S)[14]? = some (ad 14, .inl (cI, 12, .inl (S.1 8))) := rfl
theorem cIs_8 {ad : Nat → Nat} {cI cL : ClassId} {S : MS} {i : Nat} {x : Int32} : (cw ad cI cL S).set 14 (ad 14, .inl (cI, 12, .inl (upd (S.1 8) i x))) = cw ad cI cL (uI S 8 i x) := rfl
theorem cI_9 {ad : Nat → Nat} {cI cL : ClassId} {S : MS} : (cw ad cI cL S)[15]? = some (ad 15, .inl (cI, 12, .inl (S.1 9))) := rfl
theorem cIs_9 {ad : Nat → Nat} {cI cL : ClassId} {S : MS} {i : Nat} {x : Int32} : (cw ad cI cL S).set 15 (ad 15, .inl (cI, 12, .inl (upd (S.1 9) i x))) = cw ad cI cL (uI S 9 i x) := rfl
theorem cI_10 {ad : Nat → Nat} {cI cL : ClassId} {S : MS} : (cw ad cI cL S)[16]? = some (ad 16, .inl (cI, 48, .inl (S.1 10))) := rfl
theorem cIs_10 {ad : Nat → Nat} {cI cL : ClassId} {S : MS} {i : Nat} {x : Int32} : (cw ad cI cL S).set 16 (ad 16, .inl (cI, 48, .inl (upd (S.1 10) i x))) = cw ad cI cL (uI S 10 i x) := rfl
theorem cI_11 {ad : Nat → Nat} {cI cL : ClassId} {S : MS} : (cw ad cI cL S)[17]? = some (ad 17, .inl (cI, 12, .inl (S.1 11))) := rfl
theorem cIs_11 {ad : Nat → Nat} {cI cL : ClassId} {S : MS} {i : Nat} {x : Int32} : (cw ad cI cL S).set 17 (ad 17, .inl (cI, 12, .inl (upd (S.1 11) i x))) = cw ad cI cL (uI S 11 i x) := rfl
theorem cI_12 {ad : Nat → Nat} {cI cL : ClassId} {S : MS} : (cw ad cI cL S)[18]? = some (ad 18, .inl (cI, 8, .inl (S.1 12))) := rfl
theorem cIs_12 {ad : Nat → Nat} {cI cL : ClassId} {S : MS} {i : Nat} {x : Int32} : (cw ad cI cL S).set 18 (ad 18, .inl (cI, 8, .inl (upd (S.1 12) i x))) = cw ad cI cL (uI S 12 i x) := rfl
theorem cI_13 {ad : Nat → Nat} {cI cL : ClassId} {S : MS} : (cw ad cI cL S)[19]? = some (ad 19, .inl (cI, 8, .inl (S.1 13))) := rfl
theorem cIs_13 {ad : Nat → Nat} {cI cL : ClassId} {S : MS} {i : Nat} {x : Int32} : (cw ad cI cL S).set 19 (ad 19, .inl (cI, 8, .inl (upd (S.1 13) i x))) = cw ad cI cL (uI S 13 i x) := rfl
theorem cI_14 {ad : Nat → Nat} {cI cL : ClassId} {S : MS} : (cw ad cI cL S)[20]? = some (ad 20, .inl (cI, 3, .inl (S.1 14))) := rfl
theorem cIs_14 {ad : Nat → Nat} {cI cL : ClassId} {S : MS} {i : Nat} {x : Int32} : (cw ad cI cL S).set 20 (ad 20, .inl (cI, 3, .inl (upd (S.1 14) i x))) = cw ad cI cL (uI S 14 i x) := rfl
theorem cI_15 {ad : Nat → Nat} {cI cL : ClassId} {S : MS} : (cw ad cI cL S)[21]? = some (ad 21, .inl (cI, 3, .inl (S.1 15))) := rfl
theorem cIs_15 {ad : Nat → Nat} {cI cL : ClassId} {S : MS} {i : Nat} {x : Int32} : (cw ad cI cL S).set 21 (ad 21, .inl (cI, 3, .inl (upd (S.1 15) i x))) = cw ad cI cL (uI S 15 i x) := rfl
theorem cI_16 {ad : Nat → Nat} {cI cL : ClassId} {S : MS} : (cw ad cI cL S)[22]? = some (ad 22, .inl (cI, 4, .inl (S.1 16))) := rfl
theorem cIs_16 {ad : Nat → Nat} {cI cL : ClassId} {S : MS} {i : Nat} {x : Int32} : (cw ad cI cL S).set 22 (ad 22, .inl (cI, 4, .inl (upd (S.1 16) i x))) = cw ad cI cL (uI S 16 i x) := rfl
theorem cL_0 {ad : Nat → Nat} {cI cL : ClassId} {S : MS} : (cw ad cI cL S)[23]? = some (ad 23, .inl (cL, 192, .inr (.inl (S.2.1 0)))) := rfl
theorem cLs_0 {ad : Nat → Nat} {cI cL : ClassId} {S : MS} {i : Nat} {x : Int64} : (cw ad cI cL S).set 23 (ad 23, .inl (cL, 192, .inr (.inl (vp_updL (S.2.1 0) i x)))) = cw ad cI cL (uL S 0 i x) := rfl
theorem cLc_0 {ad : Nat → Nat} {cI cL : ClassId} {S : MS} {f : Nat → Int64} : (cw ad cI cL S).set 23 (ad 23, .inl (cL, 192, .inr (.inl f))) = cw ad cI cL (uC S 0 f) := rfl
theorem cL_1 {ad : Nat → Nat} {cI cL : ClassId} {S : MS} : (cw ad cI cL S)[24]? = some (ad 24, .inl (cL, 48, .inr (.inl (S.2.1 1)))) := rfl
theorem cLs_1 {ad : Nat → Nat} {cI cL : ClassId} {S : MS} {i : Nat} {x : Int64} : (cw ad cI cL S).set 24 (ad 24, .inl (cL, 48, .inr (.inl (vp_updL (S.2.1 1) i x)))) = cw ad cI cL (uL S 1 i x) := rfl
theorem cLc_1 {ad : Nat → Nat} {cI cL : ClassId} {S : MS} {f : Nat → Int64} : (cw ad cI cL S).set 24 (ad 24, .inl (cL, 48, .inr (.inl f))) = cw ad cI cL (uC S 1 f) := rfl
theorem cL_2 {ad : Nat → Nat} {cI cL : ClassId} {S : MS} : (cw ad cI cL S)[25]? = some (ad 25, .inl (cL, 256, .inr (.inl (S.2.1 2)))) := rfl
theorem cLs_2 {ad : Nat → Nat} {cI cL : ClassId} {S : MS} {i : Nat} {x : Int64} : (cw ad cI cL S).set 25 (ad 25, .inl (cL, 256, .inr (.inl (vp_updL (S.2.1 2) i x)))) = cw ad cI cL (uL S 2 i x) := rfl
theorem cLc_2 {ad : Nat → Nat} {cI cL : ClassId} {S : MS} {f : Nat → Int64} : (cw ad cI cL S).set 25 (ad 25, .inl (cL, 256, .inr (.inl f))) = cw ad cI cL (uC S 2 f) := rfl
theorem cL_3 {ad : Nat → Nat} {cI cL : ClassId} {S : MS} : (cw ad cI cL S)[26]? = some (ad 26, .inl (cL, 256, .inr (.inl (S.2.1 3)))) := rfl
theorem cLs_3 {ad : Nat → Nat} {cI cL : ClassId} {S : MS} {i : Nat} {x : Int64} : (cw ad cI cL S).set 26 (ad 26, .inl (cL, 256, .inr (.inl (vp_updL (S.2.1 3) i x)))) = cw ad cI cL (uL S 3 i x) := rfl
theorem cLc_3 {ad : Nat → Nat} {cI cL : ClassId} {S : MS} {f : Nat → Int64} : (cw ad cI cL S).set 26 (ad 26, .inl (cL, 256, .inr (.inl f))) = cw ad cI cL (uC S 3 f) := rfl
theorem cO_X5 {ad : Nat → Nat} {cI cL : ClassId} {S : MS} : (cw ad cI cL S)[0]? = some (ad 0, .inr (5, [.ref (ad 1), .ref (ad 2), .ref (ad 3), .ref (ad 4), .ref (ad 5), .ref (ad 22)])) := rfl
theorem cO_X2 {ad : Nat → Nat} {cI cL : ClassId} {S : MS} : (cw ad cI cL S)[1]? = some (ad 1, .inr (2, [.ref (ad 6), .ref (ad 7), .ref (ad 8), .ref (ad 9), .ref (ad 10), .ref (ad 11), .ref (ad 23), .int (S.2.2 0), .int (S.2.2 1)])) := rfl
theorem cFs_0 {ad : Nat → Nat} {cI cL : ClassId} {S : MS} {x : Int32} : (cw ad cI cL S).set 1 (ad 1, .inr (2, ([.ref (ad 6), .ref (ad 7), .ref (ad 8), .ref (ad 9), .ref (ad 10), .ref (ad 11), .ref (ad 23), .int (S.2.2 0), .int (S.2.2 1)] : List Value).set 7 (.int x))) = cw ad cI cL (uF S 0 x) := rfl
theorem cFs_1 {ad : Nat → Nat} {cI cL : ClassId} {S : MS} {x : Int32} : (cw ad cI cL S).set 1 (ad 1, .inr (2, ([.ref (ad 6), .ref (ad 7), .ref (ad 8), .ref (ad 9), .ref (ad 10), .ref (ad 11), .ref (ad 23), .int (S.2.2 0), .int (S.2.2 1)] : List Value).set 8 (.int x))) = cw ad cI cL (uF S 1 x) := rfl
theorem cO_X0 {ad : Nat → Nat} {cI cL : ClassId} {S : MS} : (cw ad cI cL S)[2]? = some (ad 2, .inr (0, [.ref (ad 12), .ref (ad 13), .int (S.2.2 2)])) := rfl
theorem cFs_2 {ad : Nat → Nat} {cI cL : ClassId} {S : MS} {x : Int32} : (cw ad cI cL S).set 2 (ad 2, .inr (0, ([.ref (ad 12), .ref (ad 13), .int (S.2.2 2)] : List Value).set 2 (.int x))) = cw ad cI cL (uF S 2 x) := rfl
theorem cO_X4 {ad : Nat → Nat} {cI cL : ClassId} {S : MS} : (cw ad cI cL S)[3]? = some (ad 3, .inr (4, [.ref (ad 14), .ref (ad 15), .ref (ad 16), .ref (ad 17), .ref (ad 24), .int (S.2.2 3)])) := rfl
theorem cFs_3 {ad : Nat → Nat} {cI cL : ClassId} {S : MS} {x : Int32} : (cw ad cI cL S).set 3 (ad 3, .inr (4, ([.ref (ad 14), .ref (ad 15), .ref (ad 16), .ref (ad 17), .ref (ad 24), .int (S.2.2 3)] : List Value).set 5 (.int x))) = cw ad cI cL (uF S 3 x) := rfl
theorem cO_X1 {ad : Nat → Nat} {cI cL : ClassId} {S : MS} : (cw ad cI cL S)[4]? = some (ad 4, .inr (1, [.ref (ad 1), .ref (ad 2), .ref (ad 3), .ref (ad 25), .ref (ad 26), .ref (ad 18), .ref (ad 19), .int (S.2.2 4), .int (S.2.2 5)])) := rfl
theorem cFs_4 {ad : Nat → Nat} {cI cL : ClassId} {S : MS} {x : Int32} : (cw ad cI cL S).set 4 (ad 4, .inr (1, ([.ref (ad 1), .ref (ad 2), .ref (ad 3), .ref (ad 25), .ref (ad 26), .ref (ad 18), .ref (ad 19), .int (S.2.2 4), .int (S.2.2 5)] : List Value).set 7 (.int x))) = cw ad cI cL (uF S 4 x) := rfl
theorem cFs_5 {ad : Nat → Nat} {cI cL : ClassId} {S : MS} {x : Int32} : (cw ad cI cL S).set 4 (ad 4, .inr (1, ([.ref (ad 1), .ref (ad 2), .ref (ad 3), .ref (ad 25), .ref (ad 26), .ref (ad 18), .ref (ad 19), .int (S.2.2 4), .int (S.2.2 5)] : List Value).set 8 (.int x))) = cw ad cI cL (uF S 5 x) := rfl
theorem cO_X3 {ad : Nat → Nat} {cI cL : ClassId} {S : MS} : (cw ad cI cL S)[5]? = some (ad 5, .inr (3, [.ref (ad 1), .ref (ad 4), .ref (ad 20), .ref (ad 21), .int (S.2.2 6), .int (S.2.2 7)])) := rfl
theorem cFs_6 {ad : Nat → Nat} {cI cL : ClassId} {S : MS} {x : Int32} : (cw ad cI cL S).set 5 (ad 5, .inr (3, ([.ref (ad 1), .ref (ad 4), .ref (ad 20), .ref (ad 21), .int (S.2.2 6), .int (S.2.2 7)] : List Value).set 4 (.int x))) = cw ad cI cL (uF S 6 x) := rfl
theorem cFs_7 {ad : Nat → Nat} {cI cL : ClassId} {S : MS} {x : Int32} : (cw ad cI cL S).set 5 (ad 5, .inr (3, ([.ref (ad 1), .ref (ad 4), .ref (ad 20), .ref (ad 21), .int (S.2.2 6), .int (S.2.2 7)] : List Value).set 5 (.int x))) = cw ad cI cL (uF S 7 x) := rfl
theorem rI_0 {ad : Nat → Nat} {cI cL : ClassId} {S : MS} : (rw_ ad cI cL S)[1]? = some (ad 1, .inl (cI, 12, .inl (S.1 0))) := rfl
theorem rIs_0 {ad : Nat → Nat} {cI cL : ClassId} {S : MS} {i : Nat} {x : Int32} : (rw_ ad cI cL S).set 1 (ad 1, .inl (cI, 12, .inl (upd (S.1 0) i x))) = rw_ ad cI cL (uI S 0 i x) := rfl
theorem rI_1 {ad : Nat → Nat} {cI cL : ClassId} {S : MS} : (rw_ ad cI cL S)[2]? = some (ad 2, .inl (cI, 12, .inl (S.1 1))) := rfl
theorem rIs_1 {ad : Nat → Nat} {cI cL : ClassId} {S : MS} {i : Nat} {x : Int32} : (rw_ ad cI cL S).set 2 (ad 2, .inl (cI, 12, .inl (upd (S.1 1) i x))) = rw_ ad cI cL (uI S 1 i x) := rfl
theorem rI_2 {ad : Nat → Nat} {cI cL : ClassId} {S : MS} : (rw_ ad cI cL S)[3]? = some (ad 3, .inl (cI, 12, .inl (S.1 2))) := rfl
theorem rIs_2 {ad : Nat → Nat} {cI cL : ClassId} {S : MS} {i : Nat} {x : Int32} : (rw_ ad cI cL S).set 3 (ad 3, .inl (cI, 12, .inl (upd (S.1 2) i x))) = rw_ ad cI cL (uI S 2 i x) := rfl
theorem rI_3 {ad : Nat → Nat} {cI cL : ClassId} {S : MS} : (rw_ ad cI cL S)[4]? = some (ad 4, .inl (cI, 12, .inl (S.1 3))) := rfl
theorem rIs_3 {ad : Nat → Nat} {cI cL : ClassId} {S : MS} {i : Nat} {x : Int32} : (rw_ ad cI cL S).set 4 (ad 4, .inl (cI, 12, .inl (upd (S.1 3) i x))) = rw_ ad cI cL (uI S 3 i x) := rfl
theorem rI_4 {ad : Nat → Nat} {cI cL : ClassId} {S : MS} : (rw_ ad cI cL S)[5]? = some (ad 5, .inl (cI, 12, .inl (S.1 4))) := rfl
theorem rIs_4 {ad : Nat → Nat} {cI cL : ClassId} {S : MS} {i : Nat} {x : Int32} : (rw_ ad cI cL S).set 5 (ad 5, .inl (cI, 12, .inl (upd (S.1 4) i x))) = rw_ ad cI cL (uI S 4 i x) := rfl
theorem rI_5 {ad : Nat → Nat} {cI cL : ClassId} {S : MS} : (rw_ ad cI cL S)[6]? = some (ad 6, .inl (cI, 144, .inl (S.1 5))) := rfl
theorem rIs_5 {ad : Nat → Nat} {cI cL : ClassId} {S : MS} {i : Nat} {x : Int32} : (rw_ ad cI cL S).set 6 (ad 6, .inl (cI, 144, .inl (upd (S.1 5) i x))) = rw_ ad cI cL (uI S 5 i x) := rfl
theorem rI_6 {ad : Nat → Nat} {cI cL : ClassId} {S : MS} : (rw_ ad cI cL S)[7]? = some (ad 7, .inl (cI, 12, .inl (S.1 6))) := rfl
theorem rIs_6 {ad : Nat → Nat} {cI cL : ClassId} {S : MS} {i : Nat} {x : Int32} : (rw_ ad cI cL S).set 7 (ad 7, .inl (cI, 12, .inl (upd (S.1 6) i x))) = rw_ ad cI cL (uI S 6 i x) := rfl
theorem rI_7 {ad : Nat → Nat} {cI cL : ClassId} {S : MS} : (rw_ ad cI cL S)[8]? = some (ad 8, .inl (cI, 12, .inl (S.1 7))) := rfl
theorem rIs_7 {ad : Nat → Nat} {cI cL : ClassId} {S : MS} {i : Nat} {x : Int32} : (rw_ ad cI cL S).set 8 (ad 8, .inl (cI, 12, .inl (upd (S.1 7) i x))) = rw_ ad cI cL (uI S 7 i x) := rfl
theorem rI_8 {ad : Nat → Nat} {cI cL : ClassId} {S : MS} : (rw_ ad cI cL S)[9]? = some (ad 9, .inl (cI, 20, .inl (S.1 8))) := rfl
theorem rIs_8 {ad : Nat → Nat} {cI cL : ClassId} {S : MS} {i : Nat} {x : Int32} : (rw_ ad cI cL S).set 9 (ad 9, .inl (cI, 20, .inl (upd (S.1 8) i x))) = rw_ ad cI cL (uI S 8 i x) := rfl
theorem rI_9 {ad : Nat → Nat} {cI cL : ClassId} {S : MS} : (rw_ ad cI cL S)[10]? = some (ad 10, .inl (cI, 20, .inl (S.1 9))) := rfl
theorem rIs_9 {ad : Nat → Nat} {cI cL : ClassId} {S : MS} {i : Nat} {x : Int32} : (rw_ ad cI cL S).set 10 (ad 10, .inl (cI, 20, .inl (upd (S.1 9) i x))) = rw_ ad cI cL (uI S 9 i x) := rfl
theorem rI_10 {ad : Nat → Nat} {cI cL : ClassId} {S : MS} : (rw_ ad cI cL S)[11]? = some (ad 11, .inl (cI, 20, .inl (S.1 10))) := rfl
theorem rIs_10 {ad : Nat → Nat} {cI cL : ClassId} {S : MS} {i : Nat} {x : Int32} : (rw_ ad cI cL S).set 11 (ad 11, .inl (cI, 20, .inl (upd (S.1 10) i x))) = rw_ ad cI cL (uI S 10 i x) := rfl
theorem rI_11 {ad : Nat → Nat} {cI cL : ClassId} {S : MS} : (rw_ ad cI cL S)[12]? = some (ad 12, .inl (cI, 4, .inl (S.1 11))) := rfl
theorem rIs_11 {ad : Nat → Nat} {cI cL : ClassId} {S : MS} {i : Nat} {x : Int32} : (rw_ ad cI cL S).set 12 (ad 12, .inl (cI, 4, .inl (upd (S.1 11) i x))) = rw_ ad cI cL (uI S 11 i x) := rfl
theorem rI_12 {ad : Nat → Nat} {cI cL : ClassId} {S : MS} : (rw_ ad cI cL S)[13]? = some (ad 13, .inl (cI, 4, .inl (S.1 12))) := rfl
theorem rIs_12 {ad : Nat → Nat} {cI cL : ClassId} {S : MS} {i : Nat} {x : Int32} : (rw_ ad cI cL S).set 13 (ad 13, .inl (cI, 4, .inl (upd (S.1 12) i x))) = rw_ ad cI cL (uI S 12 i x) := rfl
theorem rI_13 {ad : Nat → Nat} {cI cL : ClassId} {S : MS} : (rw_ ad cI cL S)[14]? = some (ad 14, .inl (cI, 12, .inl (S.1 13))) := rfl
theorem rIs_13 {ad : Nat → Nat} {cI cL : ClassId} {S : MS} {i : Nat} {x : Int32} : (rw_ ad cI cL S).set 14 (ad 14, .inl (cI, 12, .inl (upd (S.1 13) i x))) = rw_ ad cI cL (uI S 13 i x) := rfl
theorem rI_14 {ad : Nat → Nat} {cI cL : ClassId} {S : MS} : (rw_ ad cI cL S)[15]? = some (ad 15, .inl (cI, 12, .inl (S.1 14))) := rfl
theorem rIs_14 {ad : Nat → Nat} {cI cL : ClassId} {S : MS} {i : Nat} {x : Int32} : (rw_ ad cI cL S).set 15 (ad 15, .inl (cI, 12, .inl (upd (S.1 14) i x))) = rw_ ad cI cL (uI S 14 i x) := rfl
theorem rI_15 {ad : Nat → Nat} {cI cL : ClassId} {S : MS} : (rw_ ad cI cL S)[16]? = some (ad 16, .inl (cI, 48, .inl (S.1 15))) := rfl
theorem rIs_15 {ad : Nat → Nat} {cI cL : ClassId} {S : MS} {i : Nat} {x : Int32} : (rw_ ad cI cL S).set 16 (ad 16, .inl (cI, 48, .inl (upd (S.1 15) i x))) = rw_ ad cI cL (uI S 15 i x) := rfl
theorem rI_16 {ad : Nat → Nat} {cI cL : ClassId} {S : MS} : (rw_ ad cI cL S)[17]? = some (ad 17, .inl (cI, 12, .inl (S.1 16))) := rfl
theorem rIs_16 {ad : Nat → Nat} {cI cL : ClassId} {S : MS} {i : Nat} {x : Int32} : (rw_ ad cI cL S).set 17 (ad 17, .inl (cI, 12, .inl (upd (S.1 16) i x))) = rw_ ad cI cL (uI S 16 i x) := rfl
theorem rI_17 {ad : Nat → Nat} {cI cL : ClassId} {S : MS} : (rw_ ad cI cL S)[18]? = some (ad 18, .inl (cI, 24, .inl (S.1 17))) := rfl
theorem rIs_17 {ad : Nat → Nat} {cI cL : ClassId} {S : MS} {i : Nat} {x : Int32} : (rw_ ad cI cL S).set 18 (ad 18, .inl (cI, 24, .inl (upd (S.1 17) i x))) = rw_ ad cI cL (uI S 17 i x) := rfl
theorem rI_18 {ad : Nat → Nat} {cI cL : ClassId} {S : MS} : (rw_ ad cI cL S)[19]? = some (ad 19, .inl (cI, 24, .inl (S.1 18))) := rfl
theorem rIs_18 {ad : Nat → Nat} {cI cL : ClassId} {S : MS} {i : Nat} {x : Int32} : (rw_ ad cI cL S).set 19 (ad 19, .inl (cI, 24, .inl (upd (S.1 18) i x))) = rw_ ad cI cL (uI S 18 i x) := rfl
theorem rI_19 {ad : Nat → Nat} {cI cL : ClassId} {S : MS} : (rw_ ad cI cL S)[20]? = some (ad 20, .inl (cI, 3, .inl (S.1 19))) := rfl
theorem rIs_19 {ad : Nat → Nat} {cI cL : ClassId} {S : MS} {i : Nat} {x : Int32} : (rw_ ad cI cL S).set 20 (ad 20, .inl (cI, 3, .inl (upd (S.1 19) i x))) = rw_ ad cI cL (uI S 19 i x) := rfl
theorem rI_20 {ad : Nat → Nat} {cI cL : ClassId} {S : MS} : (rw_ ad cI cL S)[21]? = some (ad 21, .inl (cL, 12, .inl (S.1 20))) := rfl
theorem rIs_20 {ad : Nat → Nat} {cI cL : ClassId} {S : MS} {i : Nat} {x : Int32} : (rw_ ad cI cL S).set 21 (ad 21, .inl (cL, 12, .inl (upd (S.1 20) i x))) = rw_ ad cI cL (uI S 20 i x) := rfl
theorem rO {ad : Nat → Nat} {cI cL : ClassId} {S : MS} : (rw_ ad cI cL S)[0]? = some (ad 0, .inr (6, [.int (S.2.2 0), .ref (ad 1), .ref (ad 2), .ref (ad 3), .ref (ad 4), .ref (ad 5), .ref (ad 6), .ref (ad 7), .ref (ad 8), .int (S.2.2 1), .ref (ad 9), .ref (ad 10), .ref (ad 11), .int (S.2.2 2), .ref (ad 12), .ref (ad 13), .int (S.2.2 3), .ref (ad 14), .ref (ad 15), .ref (ad 16), .ref (ad 17), .ref (ad 21), .int (S.2.2 4), .ref (ad 18), .ref (ad 19), .ref (ad 20)])) := rfl
theorem rFs_0 {ad : Nat → Nat} {cI cL : ClassId} {S : MS} {x : Int32} : (rw_ ad cI cL S).set 0 (ad 0, .inr (6, ([.int (S.2.2 0), .ref (ad 1), .ref (ad 2), .ref (ad 3), .ref (ad 4), .ref (ad 5), .ref (ad 6), .ref (ad 7), .ref (ad 8), .int (S.2.2 1), .ref (ad 9), .ref (ad 10), .ref (ad 11), .int (S.2.2 2), .ref (ad 12), .ref (ad 13), .int (S.2.2 3), .ref (ad 14), .ref (ad 15), .ref (ad 16), .ref (ad 17), .ref (ad 21), .int (S.2.2 4), .ref (ad 18), .ref (ad 19), .ref (ad 20)] : List Value).set 0 (.int x))) = rw_ ad cI cL (uF S 0 x) := rfl
theorem rFs_1 {ad : Nat → Nat} {cI cL : ClassId} {S : MS} {x : Int32} : (rw_ ad cI cL S).set 0 (ad 0, .inr (6, ([.int (S.2.2 0), .ref (ad 1), .ref (ad 2), .ref (ad 3), .ref (ad 4), .ref (ad 5), .ref (ad 6), .ref (ad 7), .ref (ad 8), .int (S.2.2 1), .ref (ad 9), .ref (ad 10), .ref (ad 11), .int (S.2.2 2), .ref (ad 12), .ref (ad 13), .int (S.2.2 3), .ref (ad 14), .ref (ad 15), .ref (ad 16), .ref (ad 17), .ref (ad 21), .int (S.2.2 4), .ref (ad 18), .ref (ad 19), .ref (ad 20)] : List Value).set 9 (.int x))) = rw_ ad cI cL (uF S 1 x) := rfl
theorem rFs_2 {ad : Nat → Nat} {cI cL : ClassId} {S : MS} {x : Int32} : (rw_ ad cI cL S).set 0 (ad 0, .inr (6, ([.int (S.2.2 0), .ref (ad 1), .ref (ad 2), .ref (ad 3), .ref (ad 4), .ref (ad 5), .ref (ad 6), .ref (ad 7), .ref (ad 8), .int (S.2.2 1), .ref (ad 9), .ref (ad 10), .ref (ad 11), .int (S.2.2 2), .ref (ad 12), .ref (ad 13), .int (S.2.2 3), .ref (ad 14), .ref (ad 15), .ref (ad 16), .ref (ad 17), .ref (ad 21), .int (S.2.2 4), .ref (ad 18), .ref (ad 19), .ref (ad 20)] : List Value).set 13 (.int x))) = rw_ ad cI cL (uF S 2 x) := rfl
theorem rFs_3 {ad : Nat → Nat} {cI cL : ClassId} {S : MS} {x : Int32} : (rw_ ad cI cL S).set 0 (ad 0, .inr (6, ([.int (S.2.2 0), .ref (ad 1), .ref (ad 2), .ref (ad 3), .ref (ad 4), .ref (ad 5), .ref (ad 6), .ref (ad 7), .ref (ad 8), .int (S.2.2 1), .ref (ad 9), .ref (ad 10), .ref (ad 11), .int (S.2.2 2), .ref (ad 12), .ref (ad 13), .int (S.2.2 3), .ref (ad 14), .ref (ad 15), .ref (ad 16), .ref (ad 17), .ref (ad 21), .int (S.2.2 4), .ref (ad 18), .ref (ad 19), .ref (ad 20)] : List Value).set 16 (.int x))) = rw_ ad cI cL (uF S 3 x) := rfl
theorem rFs_4 {ad : Nat → Nat} {cI cL : ClassId} {S : MS} {x : Int32} : (rw_ ad cI cL S).set 0 (ad 0, .inr (6, ([.int (S.2.2 0), .ref (ad 1), .ref (ad 2), .ref (ad 3), .ref (ad 4), .ref (ad 5), .ref (ad 6), .ref (ad 7), .ref (ad 8), .int (S.2.2 1), .ref (ad 9), .ref (ad 10), .ref (ad 11), .int (S.2.2 2), .ref (ad 12), .ref (ad 13), .int (S.2.2 3), .ref (ad 14), .ref (ad 15), .ref (ad 16), .ref (ad 17), .ref (ad 21), .int (S.2.2 4), .ref (ad 18), .ref (ad 19), .ref (ad 20)] : List Value).set 22 (.int x))) = rw_ ad cI cL (uF S 4 x) := rfl
end
section
def jiushr (x y : Int32) : Int32 := (x.toUInt32 >>> (y.toUInt32 &&& Int32.toUInt32 31)).toInt32
def jlushr (x : Int64) (y : Int32) : Int64 := (x.toUInt64 >>> (y.toInt64.toUInt64 &&& Int64.toUInt64 63)).toInt64
def jlshl (x : Int64) (y : Int32) : Int64 := x <<< (y.toInt64 &&& 63)
def jlshr (x : Int64) (y : Int32) : Int64 := x >>> (y.toInt64 &&& 63)
def wX0_size (S : MS) (Q : Int32 → MS → Prop) : Prop :=
  Q (S.2.2 2) S
def wX0_add (S : MS) (x1 : Int32) (x2 : Int32) (Q : Int32 → MS → Prop) : Prop :=
  (((S.2.2 2) < 4 →
    vp_in (S.2.2 2) 4 ∧
    ∀ S_1 : MS, S_1 = uI S 6 (S.2.2 2).toNatClampNeg x1 →
    vp_in (S_1.2.2 2) 4 ∧
    ∀ S_2 : MS, S_2 = uI S_1 7 (S_1.2.2 2).toNatClampNeg x2 →
    ∀ S_3 : MS, S_3 = uF S_2 2 ((S_2.2.2 2) + 1) →
    Q ((S_3.2.2 2) - 1) S_3) ∧
  (¬ (S.2.2 2) < 4 →
    Q (-3) S))
def wX0_shareOf (S : MS) (x1 : Int32) (Q : Int32 → MS → Prop) : Prop :=
  vp_in x1 4 ∧
  Q (S.1 6 x1.toNatClampNeg) S
def wX0_struckBy (S : MS) (x1 : Int32) (Q : Int32 → MS → Prop) : Prop :=
  vp_in x1 4 ∧
  Q (S.1 7 x1.toNatClampNeg) S
def JX0_striking_29 (S : MS) (x1 : Int32) (x2 : Int32) (x3 : Int32) (Hd : MS → Int32 → Int32 → Prop) (K : MS → Int32 → Prop) (Q : Int32 → MS → Prop) : Prop :=
  Hd S x2 (x3 + 1)
def LX0_striking_4 (x1 : Int32) (K : MS → Int32 → Prop) (Q : Int32 → MS → Prop) : Nat → MS → Int32 → Int32 → Prop
  | 0, _, _, _ => False
  | n + 1, S, x2, x3 =>
    (((S.2.2 2) ≤ x3 →
      K S x2) ∧
    (¬ (S.2.2 2) ≤ x3 →
      vp_in x3 4 ∧
      ((((S.1 7 x3.toNatClampNeg) &&& x1) = 0 →
        JX0_striking_29 S x1 x2 x3 (fun S a2 a3 => LX0_striking_4 x1 K Q n S a2 a3) K Q) ∧
      (¬ ((S.1 7 x3.toNatClampNeg) &&& x1) = 0 →
        ∀ v_1 : Int32, v_1 = (x2 ||| ((1 : Int32) <<< (x3 &&& 31))) →
        JX0_striking_29 S x1 v_1 x3 (fun S a2 a3 => LX0_striking_4 x1 K Q n S a2 a3) K Q))))
def wX0_striking (S : MS) (x1 : Int32) (Q : Int32 → MS → Prop) : Prop :=
  ∃ n0 : Nat, LX0_striking_4 x1 (fun S_1 y_2 =>
    Q y_2 S_1) Q n0 S 0 0
def wX4_partsBelow (S : MS) (x1 : Int32) (Q : Int32 → MS → Prop) : Prop :=
  vp_in x1 12 ∧
  Q (S.1 11 x1.toNatClampNeg) S
def wX1_groupsOf (S : MS) (x1 : Int32) (Q : Int32 → MS → Prop) : Prop :=
  wX4_partsBelow S x1 fun r_2 S_1 =>
  wX0_striking S_1 r_2 fun r_4 S_3 =>
  Q r_4 S_3
def wJ6_bitCount_0f7a4 (S : MS) (x0 : Int32) (Q : Int32 → MS → Prop) : Prop :=
  ∀ v_1 : Int32, v_1 = (x0 - ((jiushr x0 1) &&& 1431655765)) →
  ∀ v_2 : Int32, v_2 = ((v_1 &&& 858993459) + ((jiushr v_1 2) &&& 858993459)) →
  ∀ v_3 : Int32, v_3 = ((v_2 + (jiushr v_2 4)) &&& 252645135) →
  ∀ v_4 : Int32, v_4 = ((v_3 + (jiushr v_3 8)) + (jiushr (v_3 + (jiushr v_3 8)) 16)) →
  Q (v_4 &&& 63) S
def wX4_sizeBelow (S : MS) (x1 : Int32) (Q : Int32 → MS → Prop) : Prop :=
  vp_in x1 12 ∧
  wJ6_bitCount_0f7a4 S (S.1 11 x1.toNatClampNeg) fun r_2 S_1 =>
  Q r_2 S_1
def wX1_eventsOf (S : MS) (x1 : Int32) (Q : Int32 → MS → Prop) : Prop :=
  wX4_sizeBelow S x1 fun r_2 S_1 =>
  wX1_groupsOf S_1 x1 fun r_4 S_3 =>
  wJ6_bitCount_0f7a4 S_3 r_4 fun r_6 S_5 =>
  Q (r_2 + r_6) S_5
def wX1_hasTooManyEvents (S : MS) (x1 : Int32) (Q : Int32 → MS → Prop) : Prop :=
  wX1_eventsOf S x1 fun r_2 S_1 =>
  ((r_2 ≤ 8 →
    Q 0 S_1) ∧
  (¬ r_2 ≤ 8 →
    Q 1 S_1))
def wX5_hasBit (S : MS) (x0 : Int32) (x1 : Int32) (Q : Int32 → MS → Prop) : Prop :=
  ((((jiushr x0 x1) &&& 1) = 0 →
    Q 0 S) ∧
  (¬ ((jiushr x0 x1) &&& 1) = 0 →
    Q 1 S))
def JX1_takeMembers_57 (S : MS) (x1 : Int32) (x2 : Int32) (Hd : MS → Int32 → Prop) (K : MS → Prop) (Q : MS → Prop) : Prop :=
  Hd S (x2 + 1)
def LX1_takeMembers_7 (x1 : Int32) (K : MS → Prop) (Q : MS → Prop) : Nat → MS → Int32 → Prop
  | 0, _, _ => False
  | n + 1, S, x2 =>
    (((12 : Int32) ≤ x2 →
      K S ) ∧
    (¬ (12 : Int32) ≤ x2 →
      (((8 : Int32) ≤ (S.2.2 4) →
        K S ) ∧
      (¬ (8 : Int32) ≤ (S.2.2 4) →
        wX4_partsBelow S x1 fun r_2 S_1 =>
        wX5_hasBit S_1 r_2 x2 fun r_4 S_3 =>
        ((r_4 = 0 →
          JX1_takeMembers_57 S_3 x1 x2 (fun S a2 => LX1_takeMembers_7 x1 K Q n S a2) K Q) ∧
        (¬ r_4 = 0 →
          vp_in (S_3.2.2 4) 8 ∧
          ∀ S_5 : MS, S_5 = uI S_3 12 (S_3.2.2 4).toNatClampNeg x2 →
          ∀ S_6 : MS, S_6 = uF S_5 4 ((S_5.2.2 4) + 1) →
          JX1_takeMembers_57 S_6 x1 x2 (fun S a2 => LX1_takeMembers_7 x1 K Q n S a2) K Q))))))
def wX1_takeMembers (S : MS) (x1 : Int32) (Q : MS → Prop) : Prop :=
  ∀ S_1 : MS, S_1 = uF S 4 0 →
  ∃ n0 : Nat, LX1_takeMembers_7 x1 (fun S_2 =>
    ∀ S_3 : MS, S_3 = uF S_2 5 (S_2.2.2 4) →
    Q S_3) Q n0 S_1 0
def wX4_actsIn (S : MS) (x1 : Int32) (x2 : Int32) (Q : Int32 → MS → Prop) : Prop :=
  vp_in ((x1 * 4) + (x2 >>> ((6 : Int32) &&& 31))) 48 ∧
  (((lg_cmp ((jlushr (S.2.1 1 ((x1 * 4) + (x2 >>> ((6 : Int32) &&& 31))).toNatClampNeg) (x2 &&& 63)) &&& 1) 0) = 0 →
    Q 0 S) ∧
  (¬ (lg_cmp ((jlushr (S.2.1 1 ((x1 * 4) + (x2 >>> ((6 : Int32) &&& 31))).toNatClampNeg) (x2 &&& 63)) &&& 1) 0) = 0 →
    Q 1 S))
def JX5_packed_37 (S : MS) (x0 : Int32) (x1 : Int32) (x2 : Int32) (x3 : Int32) (x4 : Int32) (Hd : MS → Int32 → Int32 → Int32 → Prop) (K : MS → Int32 → Prop) (Q : Int32 → MS → Prop) : Prop :=
  Hd S x2 x3 (x4 + 1)
def LX5_packed_7 (x0 : Int32) (x1 : Int32) (K : MS → Int32 → Prop) (Q : Int32 → MS → Prop) : Nat → MS → Int32 → Int32 → Int32 → Prop
  | 0, _, _, _, _ => False
  | n + 1, S, x2, x3, x4 =>
    (((12 : Int32) ≤ x4 →
      K S x2) ∧
    (¬ (12 : Int32) ≤ x4 →
      wX5_hasBit S x1 x4 fun r_2 S_1 =>
      ((r_2 = 0 →
        JX5_packed_37 S_1 x0 x1 x2 x3 x4 (fun S a2 a3 a4 => LX5_packed_7 x0 x1 K Q n S a2 a3 a4) K Q) ∧
      (¬ r_2 = 0 →
        ∀ v_3 : Int32, v_3 = (x2 ||| (((jiushr x0 x4) &&& 1) <<< (x3 &&& 31))) →
        JX5_packed_37 S_1 x0 x1 v_3 (x3 + 1) x4 (fun S a2 a3 a4 => LX5_packed_7 x0 x1 K Q n S a2 a3 a4) K Q))))
def wX5_packed (S : MS) (x0 : Int32) (x1 : Int32) (Q : Int32 → MS → Prop) : Prop :=
  ∃ n0 : Nat, LX5_packed_7 x0 x1 (fun S_1 y_2 =>
    Q y_2 S_1) Q n0 S 0 0 0
def LX1_workIn_11 (x1 : Int32) (x2 : Int64) (x4 : Int32) (K : MS → Prop) (Q : MS → Prop) : Nat → MS → Int32 → Prop
  | 0, _, _ => False
  | n + 1, S, x5 =>
    ((x4 ≤ x5 →
      K S ) ∧
    (¬ x4 ≤ x5 →
      vp_in x5 256 ∧
      vp_in (x5 ||| x1) 256 ∧
      vp_in x5 256 ∧
      ∀ S_1 : MS, S_1 = uL S 2 x5.toNatClampNeg (((64 - x2) * (S.2.1 2 x5.toNatClampNeg)) + (x2 * (S.2.1 2 (x5 ||| x1).toNatClampNeg))) →
      LX1_workIn_11 x1 x2 x4 K Q n S_1 (x5 + 1)))
def wX1_workIn (S : MS) (x1 : Int32) (x2 : Int64) (Q : MS → Prop) : Prop :=
  ∀ v_1 : Int32, v_1 = ((1 : Int32) <<< ((S.2.2 4) &&& 31)) →
  ∃ n0 : Nat, LX1_workIn_11 x1 x2 v_1 (fun S_2 =>
    ∀ S_3 : MS, S_3 = uF S_2 5 ((S_2.2.2 5) + 1) →
    Q S_3) Q n0 S 0
def JX1_startFailing_45 (S : MS) (x1 : Int32) (x2 : Int32) (x3 : Int32) (t0 : Int32) (t1 : Int64) (Hd : MS → Int32 → Prop) (K : MS → Prop) (Q : MS → Prop) : Prop :=
  vp_in t0 256 ∧
  ∀ S_1 : MS, S_1 = uL S 2 t0.toNatClampNeg t1 →
  Hd S_1 (x3 + 1)
def LX1_startFailing_14 (x1 : Int32) (x2 : Int32) (K : MS → Prop) (Q : MS → Prop) : Nat → MS → Int32 → Prop
  | 0, _, _ => False
  | n + 1, S, x3 =>
    ((x2 ≤ x3 →
      K S ) ∧
    (¬ x2 ≤ x3 →
      wX4_actsIn S x1 ((x2 - 1) - x3) fun r_2 S_1 =>
      ((r_2 = 0 →
        JX1_startFailing_45 S_1 x1 x2 x3 x3 1 (fun S a3 => LX1_startFailing_14 x1 x2 K Q n S a3) K Q) ∧
      (¬ r_2 = 0 →
        JX1_startFailing_45 S_1 x1 x2 x3 x3 0 (fun S a3 => LX1_startFailing_14 x1 x2 K Q n S a3) K Q))))
def JX1_startFailing_106 (S : MS) (x1 : Int32) (x3 : Int32) (Hd : MS → Int32 → Prop) (K : MS → Prop) (Q : MS → Prop) : Prop :=
  Hd S (x3 + 1)
def LX1_startFailing_54 (x1 : Int32) (K : MS → Prop) (Q : MS → Prop) : Nat → MS → Int32 → Prop
  | 0, _, _ => False
  | n + 1, S, x3 =>
    wX0_size S fun r_2 S_1 =>
    ((r_2 ≤ x3 →
      K S_1 ) ∧
    (¬ r_2 ≤ x3 →
      wX0_struckBy S_1 x3 fun r_4 S_3 =>
      wX4_partsBelow S_3 x1 fun r_6 S_5 =>
      wX5_packed S_5 r_4 r_6 fun r_8 S_7 =>
      ((r_8 = 0 →
        JX1_startFailing_106 S_7 x1 x3 (fun S a3 => LX1_startFailing_54 x1 K Q n S a3) K Q) ∧
      (¬ r_8 = 0 →
        wX0_shareOf S_7 x3 fun r_10 S_9 =>
        wX1_workIn S_9 r_8 r_10.toInt64 fun S_11 =>
        JX1_startFailing_106 S_11 x1 x3 (fun S a3 => LX1_startFailing_54 x1 K Q n S a3) K Q))))
def wX1_startFailing (S : MS) (x1 : Int32) (Q : MS → Prop) : Prop :=
  wX1_takeMembers S x1 fun S_1 =>
  ∀ v_3 : Int32, v_3 = ((1 : Int32) <<< ((S_1.2.2 4) &&& 31)) →
  ∃ n0 : Nat, LX1_startFailing_14 x1 v_3 (fun S_4 =>
    ∃ n0 : Nat, LX1_startFailing_54 x1 (fun S_5 =>
      Q S_5) Q n0 S_4 0) Q n0 S_1 0
def JX2_testsUpTo_35 (S : MS) (x1 : Int32) (x2 : Int32) (x3 : Int32) (x4 : Int32) (Hd : MS → Int32 → Int32 → Prop) (K : MS → Int32 → Prop) (Q : Int32 → MS → Prop) : Prop :=
  Hd S x3 (x4 + 1)
def LX2_testsUpTo_5 (x1 : Int32) (x2 : Int32) (K : MS → Int32 → Prop) (Q : Int32 → MS → Prop) : Nat → MS → Int32 → Int32 → Prop
  | 0, _, _, _ => False
  | n + 1, S, x3, x4 =>
    vp_in x1 12 ∧
    (((S.1 4 x1.toNatClampNeg) ≤ x4 →
      K S x3) ∧
    (¬ (S.1 4 x1.toNatClampNeg) ≤ x4 →
      vp_in ((x1 * 12) + x4) 144 ∧
      ((x2 < (S.1 5 ((x1 * 12) + x4).toNatClampNeg) →
        JX2_testsUpTo_35 S x1 x2 x3 x4 (fun S a3 a4 => LX2_testsUpTo_5 x1 x2 K Q n S a3 a4) K Q) ∧
      (¬ x2 < (S.1 5 ((x1 * 12) + x4).toNatClampNeg) →
        JX2_testsUpTo_35 S x1 x2 (x3 + 1) x4 (fun S a3 a4 => LX2_testsUpTo_5 x1 x2 K Q n S a3 a4) K Q))))
def wX2_testsUpTo (S : MS) (x1 : Int32) (x2 : Int32) (Q : Int32 → MS → Prop) : Prop :=
  ∃ n0 : Nat, LX2_testsUpTo_5 x1 x2 (fun S_1 y_2 =>
    Q y_2 S_1) Q n0 S 0 0
def wX2_shareAfter (S : MS) (x1 : Int32) (x2 : Int32) (x3 : Int32) (Q : Int32 → MS → Prop) : Prop :=
  vp_in ((x1 * 16) + (x2 >>> ((6 : Int32) &&& 31))) 192 ∧
  (((lg_cmp ((jlushr (S.2.1 0 ((x1 * 16) + (x2 >>> ((6 : Int32) &&& 31))).toNatClampNeg) (x2 &&& 63)) &&& 1) 0) = 0 →
    vp_in x1 12 ∧
    vp_in x1 12 ∧
    Q (if ((S.1 0 x1.toNatClampNeg) + ((S.1 1 x1.toNatClampNeg) * x3)) < 64 then ((S.1 0 x1.toNatClampNeg) + ((S.1 1 x1.toNatClampNeg) * x3)) else 64) S) ∧
  (¬ (lg_cmp ((jlushr (S.2.1 0 ((x1 * 16) + (x2 >>> ((6 : Int32) &&& 31))).toNatClampNeg) (x2 &&& 63)) &&& 1) 0) = 0 →
    Q 64 S))
def JX2_shareOn_28 (S : MS) (x1 : Int32) (x2 : Int32) (t0 : Int32) (Q : Int32 → MS → Prop) : Prop :=
  wX2_shareAfter S x1 x2 (x2 - t0) fun r_2 S_1 =>
  Q r_2 S_1
def wX2_shareOn (S : MS) (x1 : Int32) (x2 : Int32) (Q : Int32 → MS → Prop) : Prop :=
  wX2_testsUpTo S x1 x2 fun r_2 S_1 =>
  ((r_2 = 0 →
    JX2_shareOn_28 S_1 x1 x2 0 Q) ∧
  (¬ r_2 = 0 →
    vp_in (((x1 * 12) + r_2) - 1) 144 ∧
    JX2_shareOn_28 S_1 x1 x2 (S_1.1 5 (((x1 * 12) + r_2) - 1).toNatClampNeg) Q))
def LX1_takeSharesOn_2 (x1 : Int32) (K : MS → Prop) (Q : MS → Prop) : Nat → MS → Int32 → Prop
  | 0, _, _ => False
  | n + 1, S, x2 =>
    (((S.2.2 4) ≤ x2 →
      K S ) ∧
    (¬ (S.2.2 4) ≤ x2 →
      vp_in x2 8 ∧
      wX2_shareOn S (S.1 12 x2.toNatClampNeg) x1 fun r_2 S_1 =>
      vp_in x2 8 ∧
      ∀ S_3 : MS, S_3 = uI S_1 13 x2.toNatClampNeg r_2 →
      LX1_takeSharesOn_2 x1 K Q n S_3 (x2 + 1)))
def wX1_takeSharesOn (S : MS) (x1 : Int32) (Q : MS → Prop) : Prop :=
  ∃ n0 : Nat, LX1_takeSharesOn_2 x1 (fun S_1 =>
    Q S_1) Q n0 S 0
def LX1_sum_45 (x1 : Int32) (x2 : Int32) (x3 : Int64) (K : MS → Prop) (Q : Int64 → MS → Prop) : Nat → MS → Int32 → Prop
  | 0, _, _ => False
  | n + 1, S, x5 =>
    ((x2 ≤ x5 →
      K S ) ∧
    (¬ x2 ≤ x5 →
      vp_in x5 256 ∧
      vp_in (x5 + x2) 256 ∧
      vp_in x5 256 ∧
      ∀ S_1 : MS, S_1 = uL S 3 x5.toNatClampNeg (((64 - x3) * (S.2.1 3 x5.toNatClampNeg)) + (x3 * (S.2.1 3 (x5 + x2).toNatClampNeg))) →
      LX1_sum_45 x1 x2 x3 K Q n S_1 (x5 + 1)))
def LX1_sum_26 (K : MS → Prop) (Q : Int64 → MS → Prop) : Nat → MS → Int32 → Prop
  | 0, _, _ => False
  | n + 1, S, x1 =>
    ((x1 < 0 →
      K S ) ∧
    (¬ x1 < 0 →
      vp_in x1 8 ∧
      ∃ n0 : Nat, LX1_sum_45 x1 ((1 : Int32) <<< (x1 &&& 31)) ((S.1 13 x1.toNatClampNeg).toInt64) (fun S_1 =>
        LX1_sum_26 K Q n S_1 (x1 + (-1))) Q n0 S 0))
def wX1_sum (S : MS) (Q : Int64 → MS → Prop) : Prop :=
  ¬ ((1 : Int32) <<< ((S.2.2 4) &&& 31)) < 0 ∧ ((1 : Int32) <<< ((S.2.2 4) &&& 31)).toNatClampNeg ≤ 256 ∧ ((1 : Int32) <<< ((S.2.2 4) &&& 31)).toNatClampNeg ≤ 256 ∧
  ∀ S_1 : MS, S_1 = uC S 3 (va_cpy (S.2.1 2) (S.2.1 3) 0 0 ((1 : Int32) <<< ((S.2.2 4) &&& 31)).toNatClampNeg) →
  ∃ n0 : Nat, LX1_sum_26 (fun S_2 =>
    vp_in 0 256 ∧
    Q (jlshl (S_2.2.1 3 (0 : Int32).toNatClampNeg) (6 * (8 - (S_2.2.2 5)))) S_2) Q n0 S_1 ((S_1.2.2 4) - 1)
def wX1_onDay (S : MS) (x1 : Int32) (Q : Int64 → MS → Prop) : Prop :=
  wX1_takeSharesOn S x1 fun S_1 =>
  wX1_sum S_1 fun r_4 S_3 =>
  Q r_4 S_3
def wX2_shareForNothing (S : MS) (x1 : Int32) (Q : Int32 → MS → Prop) : Prop :=
  vp_in x1 12 ∧
  Q (S.1 2 x1.toNatClampNeg) S
def JX1_forNothing_41 (S : MS) (x1 : Int32) (x2 : Int32) (x3 : Int32) (t0 : Int32) (t1 : Int64) (Hd : MS → Int32 → Prop) (K : MS → Prop) (Q : Int64 → MS → Prop) : Prop :=
  vp_in t0 256 ∧
  ∀ S_1 : MS, S_1 = uL S 2 t0.toNatClampNeg t1 →
  Hd S_1 (x3 + 1)
def LX1_forNothing_14 (x1 : Int32) (x2 : Int32) (K : MS → Prop) (Q : Int64 → MS → Prop) : Nat → MS → Int32 → Prop
  | 0, _, _ => False
  | n + 1, S, x3 =>
    ((x2 ≤ x3 →
      K S ) ∧
    (¬ x2 ≤ x3 →
      wX4_actsIn S x1 x3 fun r_2 S_1 =>
      ((r_2 = 0 →
        JX1_forNothing_41 S_1 x1 x2 x3 x3 0 (fun S a3 => LX1_forNothing_14 x1 x2 K Q n S a3) K Q) ∧
      (¬ r_2 = 0 →
        JX1_forNothing_41 S_1 x1 x2 x3 x3 1 (fun S a3 => LX1_forNothing_14 x1 x2 K Q n S a3) K Q))))
def LX1_forNothing_50 (K : MS → Prop) (Q : Int64 → MS → Prop) : Nat → MS → Int32 → Prop
  | 0, _, _ => False
  | n + 1, S, x3 =>
    (((S.2.2 4) ≤ x3 →
      K S ) ∧
    (¬ (S.2.2 4) ≤ x3 →
      vp_in x3 8 ∧
      wX2_shareForNothing S (S.1 12 x3.toNatClampNeg) fun r_2 S_1 =>
      vp_in x3 8 ∧
      ∀ S_3 : MS, S_3 = uI S_1 13 x3.toNatClampNeg r_2 →
      LX1_forNothing_50 K Q n S_3 (x3 + 1)))
def wX1_forNothing (S : MS) (x1 : Int32) (Q : Int64 → MS → Prop) : Prop :=
  wX1_takeMembers S x1 fun S_1 =>
  ∀ v_3 : Int32, v_3 = ((1 : Int32) <<< ((S_1.2.2 4) &&& 31)) →
  ∃ n0 : Nat, LX1_forNothing_14 x1 v_3 (fun S_4 =>
    ∃ n0 : Nat, LX1_forNothing_50 (fun S_5 =>
      wX1_sum S_5 fun r_7 S_6 =>
      Q r_7 S_6) Q n0 S_4 0) Q n0 S_1 0
def wX1_weightAt (S : MS) (x1 : Int32) (Q : Int64 → MS → Prop) : Prop :=
  vp_in x1 8 ∧
  vp_in x1 8 ∧
  ∀ S_1 : MS, S_1 = uI S 13 x1.toNatClampNeg 64 →
  wX1_sum S_1 fun r_3 S_2 =>
  vp_in x1 8 ∧
  ∀ S_4 : MS, S_4 = uI S_2 13 x1.toNatClampNeg 0 →
  wX1_sum S_4 fun r_6 S_5 =>
  vp_in x1 8 ∧
  ∀ S_7 : MS, S_7 = uI S_5 13 x1.toNatClampNeg (S.1 13 x1.toNatClampNeg) →
  Q (r_3 - r_6) S_7
def LX1_weightOf_7 (x1 : Int32) (K : MS → Prop) (Q : Int64 → MS → Prop) : Nat → MS → Int32 → Prop
  | 0, _, _ => False
  | n + 1, S, x3 =>
    (((S.2.2 4) ≤ x3 →
      K S ) ∧
    (¬ (S.2.2 4) ≤ x3 →
      vp_in x3 8 ∧
      (((S.1 12 x3.toNatClampNeg) = x1 →
        wX1_weightAt S x3 fun r_2 S_1 =>
        Q r_2 S_1) ∧
      (¬ (S.1 12 x3.toNatClampNeg) = x1 →
        LX1_weightOf_7 x1 K Q n S (x3 + 1)))))
def wX1_weightOf (S : MS) (x1 : Int32) (x2 : Int32) (Q : Int64 → MS → Prop) : Prop :=
  wX1_takeSharesOn S x2 fun S_1 =>
  ∃ n0 : Nat, LX1_weightOf_7 x1 (fun S_3 =>
    Q 0 S_3) Q n0 S_1 0
def JX1_weightiestPart_46 (S : MS) (x2 : Int32) (x3 : Int64) (x5 : Int32) (Hd : MS → Int32 → Int64 → Int32 → Prop) (K : MS → Int32 → Prop) (Q : Int32 → MS → Prop) : Prop :=
  Hd S x2 x3 (x5 + 1)
def LX1_weightiestPart_16 (K : MS → Int32 → Prop) (Q : Int32 → MS → Prop) : Nat → MS → Int32 → Int64 → Int32 → Prop
  | 0, _, _, _, _ => False
  | n + 1, S, x2, x3, x5 =>
    (((S.2.2 4) ≤ x5 →
      K S x2) ∧
    (¬ (S.2.2 4) ≤ x5 →
      wX1_weightAt S x5 fun r_2 S_1 =>
      (((lg_cmp r_2 x3) ≤ 0 →
        JX1_weightiestPart_46 S_1 x2 x3 x5 (fun S a2 a3 a5 => LX1_weightiestPart_16 K Q n S a2 a3 a5) K Q) ∧
      (¬ (lg_cmp r_2 x3) ≤ 0 →
        JX1_weightiestPart_46 S_1 x5 r_2 x5 (fun S a2 a3 a5 => LX1_weightiestPart_16 K Q n S a2 a3 a5) K Q))))
def wX1_weightiestPart (S : MS) (x1 : Int32) (Q : Int32 → MS → Prop) : Prop :=
  wX1_takeSharesOn S x1 fun S_1 =>
  wX1_weightAt S_1 0 fun r_4 S_3 =>
  ∃ n0 : Nat, LX1_weightiestPart_16 (fun S_5 y_6 =>
    vp_in y_6 8 ∧
    Q (S_5.1 12 y_6.toNatClampNeg) S_5) Q n0 S_3 0 r_4 1
def wX1_memberCount (S : MS) (Q : Int32 → MS → Prop) : Prop :=
  Q (S.2.2 4) S
def wX1_memberAt (S : MS) (x1 : Int32) (Q : Int32 → MS → Prop) : Prop :=
  vp_in x1 8 ∧
  Q (S.1 12 x1.toNatClampNeg) S
def wX1_setShare (S : MS) (x1 : Int32) (x2 : Int32) (Q : MS → Prop) : Prop :=
  vp_in x1 8 ∧
  ∀ S_1 : MS, S_1 = uI S 13 x1.toNatClampNeg x2 →
  Q S_1
def wX2_has (S : MS) (x1 : Int32) (Q : Int32 → MS → Prop) : Prop :=
  ((x1 < 0 →
    Q 0 S) ∧
  (¬ x1 < 0 →
    (((S.2.2 1) ≤ x1 →
      Q 0 S) ∧
    (¬ (S.2.2 1) ≤ x1 →
      Q 1 S))))
def wX2_hasAll (S : MS) (x1 : Int32) (Q : Int32 → MS → Prop) : Prop :=
  (((jiushr x1 (S.2.2 1)) = 0 →
    Q 1 S) ∧
  (¬ (jiushr x1 (S.2.2 1)) = 0 →
    Q 0 S))
def wX2_size (S : MS) (Q : Int32 → MS → Prop) : Prop :=
  Q (S.2.2 1) S
def wX2_add (S : MS) (x1 : Int32) (x2 : Int32) (x3 : Int32) (Q : Int32 → MS → Prop) : Prop :=
  (((S.2.2 1) < 12 →
    vp_in (S.2.2 1) 12 ∧
    ∀ S_1 : MS, S_1 = uI S 0 (S.2.2 1).toNatClampNeg x1 →
    vp_in (S_1.2.2 1) 12 ∧
    ∀ S_2 : MS, S_2 = uI S_1 1 (S_1.2.2 1).toNatClampNeg x2 →
    vp_in (S_2.2.2 1) 12 ∧
    ∀ S_3 : MS, S_3 = uI S_2 2 (S_2.2.2 1).toNatClampNeg x3 →
    vp_in (S_3.2.2 1) 12 ∧
    ∀ S_4 : MS, S_4 = uI S_3 3 (S_3.2.2 1).toNatClampNeg 1 →
    ∀ S_5 : MS, S_5 = uF S_4 1 ((S_4.2.2 1) + 1) →
    Q ((S_5.2.2 1) - 1) S_5) ∧
  (¬ (S.2.2 1) < 12 →
    Q (-3) S))
def JX2_addTest_31 (S : MS) (x1 : Int32) (x2 : Int32) (x3 : Int32) (Q : Int32 → MS → Prop) : Prop :=
  ((x3 < 12 →
    vp_in ((x1 * 12) + x3) 144 ∧
    ∀ S_1 : MS, S_1 = uI S 5 ((x1 * 12) + x3).toNatClampNeg x2 →
    vp_in x1 12 ∧
    ∀ S_2 : MS, S_2 = uI S_1 4 x1.toNatClampNeg (x3 + 1) →
    Q (x3 + 1) S_2) ∧
  (¬ x3 < 12 →
    Q (-3) S))
def wX2_addTest (S : MS) (x1 : Int32) (x2 : Int32) (Q : Int32 → MS → Prop) : Prop :=
  vp_in x1 12 ∧
  (((S.1 4 x1.toNatClampNeg) ≤ 0 →
    JX2_addTest_31 S x1 x2 (S.1 4 x1.toNatClampNeg) Q) ∧
  (¬ (S.1 4 x1.toNatClampNeg) ≤ 0 →
    vp_in (((x1 * 12) + (S.1 4 x1.toNatClampNeg)) - 1) 144 ∧
    (((S.1 5 (((x1 * 12) + (S.1 4 x1.toNatClampNeg)) - 1).toNatClampNeg) < x2 →
      JX2_addTest_31 S x1 x2 (S.1 4 x1.toNatClampNeg) Q) ∧
    (¬ (S.1 5 (((x1 * 12) + (S.1 4 x1.toNatClampNeg)) - 1).toNatClampNeg) < x2 →
      Q (-2) S))))
def wX2_dropTests (S : MS) (x1 : Int32) (x2 : Int32) (Q : Int32 → MS → Prop) : Prop :=
  wX2_testsUpTo S x1 (x2 - 1) fun r_2 S_1 =>
  vp_in x1 12 ∧
  vp_in x1 12 ∧
  ∀ S_3 : MS, S_3 = uI S_1 4 x1.toNatClampNeg r_2 →
  Q ((S_1.1 4 x1.toNatClampNeg) - r_2) S_3
def LX2_allTests_4 (K : MS → Int32 → Prop) (Q : Int32 → MS → Prop) : Nat → MS → Int32 → Int32 → Prop
  | 0, _, _, _ => False
  | n + 1, S, x1, x2 =>
    (((S.2.2 1) ≤ x2 →
      K S x1) ∧
    (¬ (S.2.2 1) ≤ x2 →
      vp_in x2 12 ∧
      LX2_allTests_4 K Q n S (x1 + (S.1 4 x2.toNatClampNeg)) (x2 + 1)))
def wX2_allTests (S : MS) (Q : Int32 → MS → Prop) : Prop :=
  ∃ n0 : Nat, LX2_allTests_4 (fun S_1 y_2 =>
    Q y_2 S_1) Q n0 S 0 0
def wX2_allBypasses (S : MS) (Q : Int32 → MS → Prop) : Prop :=
  Q (S.2.2 0) S
def wX2_daysInWord (S : MS) (x0 : Int32) (x1 : Int32) (x2 : Int32) (Q : Int64 → MS → Prop) : Prop :=
  ∀ v_1 : Int32, v_1 = (if (x1 - (x0 * 64)) < 0 then 0 else (x1 - (x0 * 64))) →
  ∀ v_2 : Int32, v_2 = (if 63 < (x2 - (x0 * 64)) then 63 else (x2 - (x0 * 64))) →
  ((v_1 ≤ v_2 →
    Q ((jlshl (-1) v_1) &&& (jlushr (-1) (63 - v_2))) S) ∧
  (¬ v_1 ≤ v_2 →
    Q 0 S))
def LX2_addBypass_15 (x1 : Int32) (x2 : Int32) (x3 : Int32) (K : MS → Prop) (Q : Int32 → MS → Prop) : Nat → MS → Int32 → Prop
  | 0, _, _ => False
  | n + 1, S, x4 =>
    (((16 : Int32) ≤ x4 →
      K S ) ∧
    (¬ (16 : Int32) ≤ x4 →
      vp_in ((x1 * 16) + x4) 192 ∧
      wX2_daysInWord S x4 x2 x3 fun r_2 S_1 =>
      vp_in ((x1 * 16) + x4) 192 ∧
      ∀ S_3 : MS, S_3 = uL S_1 0 ((x1 * 16) + x4).toNatClampNeg ((S.2.1 0 ((x1 * 16) + x4).toNatClampNeg) ||| r_2) →
      LX2_addBypass_15 x1 x2 x3 K Q n S_3 (x4 + 1)))
def wX2_addBypass (S : MS) (x1 : Int32) (x2 : Int32) (x3 : Int32) (Q : Int32 → MS → Prop) : Prop :=
  (((S.2.2 0) < 20 →
    ∃ n0 : Nat, LX2_addBypass_15 x1 x2 x3 (fun S_1 =>
      ∀ S_2 : MS, S_2 = uF S_1 0 ((S_1.2.2 0) + 1) →
      Q (S_2.2.2 0) S_2) Q n0 S 0) ∧
  (¬ (S.2.2 0) < 20 →
    Q (-3) S))
def wJ13_bitCount_95d88 (S : MS) (x0 : Int64) (Q : Int32 → MS → Prop) : Prop :=
  ∀ v_1 : Int64, v_1 = (x0 - ((jlushr x0 1) &&& 6148914691236517205)) →
  ∀ v_2 : Int64, v_2 = ((v_1 &&& 3689348814741910323) + ((jlushr v_1 2) &&& 3689348814741910323)) →
  ∀ v_3 : Int64, v_3 = ((v_2 + (jlushr v_2 4)) &&& 1085102592571150095) →
  ∀ v_4 : Int64, v_4 = ((v_3 + (jlushr v_3 8)) + (jlushr (v_3 + (jlushr v_3 8)) 16)) →
  Q ((v_4 + (jlushr v_4 32)).toInt32 &&& 127) S
def LX2_bypassedDays_6 (x1 : Int32) (x2 : Int32) (x3 : Int32) (K : MS → Int32 → Prop) (Q : Int32 → MS → Prop) : Nat → MS → Int32 → Int32 → Prop
  | 0, _, _, _ => False
  | n + 1, S, x4, x5 =>
    (((16 : Int32) ≤ x5 →
      K S x4) ∧
    (¬ (16 : Int32) ≤ x5 →
      vp_in ((x1 * 16) + x5) 192 ∧
      wX2_daysInWord S x5 x2 x3 fun r_2 S_1 =>
      wJ13_bitCount_95d88 S_1 ((S.2.1 0 ((x1 * 16) + x5).toNatClampNeg) &&& r_2) fun r_4 S_3 =>
      LX2_bypassedDays_6 x1 x2 x3 K Q n S_3 (x4 + r_4) (x5 + 1)))
def wX2_bypassedDays (S : MS) (x1 : Int32) (x2 : Int32) (x3 : Int32) (Q : Int32 → MS → Prop) : Prop :=
  ∃ n0 : Nat, LX2_bypassedDays_6 x1 x2 x3 (fun S_1 y_2 =>
    Q y_2 S_1) Q n0 S 0 0
def wX2_changeCost (S : MS) (x1 : Int32) (x2 : Int32) (Q : Int32 → MS → Prop) : Prop :=
  vp_in x1 12 ∧
  vp_in x1 12 ∧
  ∀ S_1 : MS, S_1 = uI S 3 x1.toNatClampNeg x2 →
  Q (S.1 3 x1.toNatClampNeg) S_1
def wX2_costOf (S : MS) (x1 : Int32) (Q : Int32 → MS → Prop) : Prop :=
  vp_in x1 12 ∧
  Q (S.1 3 x1.toNatClampNeg) S
def wX3_setIntervals (S : MS) (x1 : Int32) (x2 : Int32) (x3 : Int32) (Q : MS → Prop) : Prop :=
  vp_in 0 3 ∧
  ∀ S_1 : MS, S_1 = uI S 14 (0 : Int32).toNatClampNeg x1 →
  vp_in 1 3 ∧
  ∀ S_2 : MS, S_2 = uI S_1 14 (1 : Int32).toNatClampNeg x2 →
  vp_in 2 3 ∧
  ∀ S_3 : MS, S_3 = uI S_2 14 (2 : Int32).toNatClampNeg x3 →
  Q S_3
def wX3_cheapestCost (S : MS) (Q : Int32 → MS → Prop) : Prop :=
  Q (S.2.2 6) S
def wX3_cheapestChoices (S : MS) (Q : Int32 → MS → Prop) : Prop :=
  Q (S.2.2 7) S
def LX3_takeChoices_12 (K : MS → Prop) (Q : MS → Prop) : Nat → MS → Int32 → Int32 → Prop
  | 0, _, _, _ => False
  | n + 1, S, x2, x3 =>
    ((x3 < 0 →
      K S ) ∧
    (¬ x3 < 0 →
      vp_in x3 3 ∧
      ∀ S_1 : MS, S_1 = uI S 15 x3.toNatClampNeg (x2 - x2 / 3 * 3) →
      LX3_takeChoices_12 K Q n S_1 (x2 / 3) (x3 + (-1))))
def wX3_takeChoices (S : MS) (x1 : Int32) (Q : MS → Prop) : Prop :=
  wX1_memberCount S fun r_2 S_1 =>
  ∃ n0 : Nat, LX3_takeChoices_12 (fun S_3 =>
    Q S_3) Q n0 S_1 x1 (r_2 - 1)
def LX3_costOfChoices_4 (K : MS → Int32 → Prop) (Q : Int32 → MS → Prop) : Nat → MS → Int32 → Int32 → Prop
  | 0, _, _, _ => False
  | n + 1, S, x1, x2 =>
    wX1_memberCount S fun r_2 S_1 =>
    ((r_2 ≤ x2 →
      K S_1 x1) ∧
    (¬ r_2 ≤ x2 →
      wX1_memberAt S_1 x2 fun r_4 S_3 =>
      wX2_costOf S_3 r_4 fun r_6 S_5 =>
      vp_in x2 3 ∧
      vp_in (S_5.1 15 x2.toNatClampNeg) 3 ∧
      ¬ (S_5.1 14 (S_5.1 15 x2.toNatClampNeg).toNatClampNeg) = 0 ∧
      ∀ v_7 : Int32, v_7 = (x1 + (r_6 * (100 / (S_5.1 14 (S_5.1 15 x2.toNatClampNeg).toNatClampNeg)))) →
      LX3_costOfChoices_4 K Q n S_5 v_7 (x2 + 1)))
def wX3_costOfChoices (S : MS) (Q : Int32 → MS → Prop) : Prop :=
  ∃ n0 : Nat, LX3_costOfChoices_4 (fun S_1 y_2 =>
    Q y_2 S_1) Q n0 S 0 0
def LX3_keepsLaw_21 (x1 : Int64) (x3 : Int64) (x5 : Int32) (K : MS → Prop) (Q : Int32 → MS → Prop) : Nat → MS → Int32 → Prop
  | 0, _, _ => False
  | n + 1, S, x6 =>
    wX1_memberCount S fun r_2 S_1 =>
    ((r_2 ≤ x6 →
      K S_1 ) ∧
    (¬ r_2 ≤ x6 →
      vp_in x6 3 ∧
      vp_in (S_1.1 15 x6.toNatClampNeg) 3 ∧
      ¬ (S_1.1 14 (S_1.1 15 x6.toNatClampNeg).toNatClampNeg) = 0 ∧
      ∀ v_3 : Int32, v_3 = (x5 - x5 / (S_1.1 14 (S_1.1 15 x6.toNatClampNeg).toNatClampNeg) * (S_1.1 14 (S_1.1 15 x6.toNatClampNeg).toNatClampNeg)) →
      wX1_memberAt S_1 x6 fun r_5 S_4 =>
      wX2_shareAfter S_4 r_5 x5 v_3 fun r_7 S_6 =>
      wX1_setShare S_6 x6 r_7 fun S_8 =>
      LX3_keepsLaw_21 x1 x3 x5 K Q n S_8 (x6 + 1)))
def LX3_keepsLaw_5 (x1 : Int64) (K : MS → Int64 → Prop) (Q : Int32 → MS → Prop) : Nat → MS → Int64 → Int32 → Prop
  | 0, _, _, _ => False
  | n + 1, S, x3, x5 =>
    (((100 : Int32) ≤ x5 →
      K S x3) ∧
    (¬ (100 : Int32) ≤ x5 →
      (((0 : Int32) < (lg_cmp x3 x1) →
        K S x3) ∧
      (¬ (0 : Int32) < (lg_cmp x3 x1) →
        ∃ n0 : Nat, LX3_keepsLaw_21 x1 x3 x5 (fun S_1 =>
          wX1_sum S_1 fun r_3 S_2 =>
          LX3_keepsLaw_5 x1 K Q n S_2 (x3 + r_3) (x5 + 1)) Q n0 S 0))))
def wX3_keepsLaw (S : MS) (x1 : Int64) (Q : Int32 → MS → Prop) : Prop :=
  ∃ n0 : Nat, LX3_keepsLaw_5 x1 (fun S_1 y_2 =>
    (((0 : Int32) < (lg_cmp y_2 x1) →
      Q 0 S_1) ∧
    (¬ (0 : Int32) < (lg_cmp y_2 x1) →
      Q 1 S_1))) Q n0 S 0 0
def LX3_toldChoices_12 (K : MS → Int32 → Prop) (Q : Int32 → MS → Prop) : Nat → MS → Int32 → Int32 → Prop
  | 0, _, _, _ => False
  | n + 1, S, x1, x2 =>
    ((x2 < 0 →
      K S x1) ∧
    (¬ x2 < 0 →
      vp_in x2 3 ∧
      ∀ v_1 : Int32, v_1 = ((x1 * 3) + (S.1 15 x2.toNatClampNeg)) →
      LX3_toldChoices_12 K Q n S v_1 (x2 + (-1))))
def wX3_toldChoices (S : MS) (Q : Int32 → MS → Prop) : Prop :=
  wX1_memberCount S fun r_2 S_1 =>
  ∃ n0 : Nat, LX3_toldChoices_12 (fun S_3 y_4 =>
    Q y_4 S_3) Q n0 S_1 0 (r_2 - 1)
def LX3_findCheapest_14 (x2 : Int64) (K : MS → Int32 → Prop) (Q : Int32 → MS → Prop) : Nat → MS → Int32 → Int32 → Prop
  | 0, _, _, _ => False
  | n + 1, S, x4, x5 =>
    wX1_memberCount S fun r_2 S_1 =>
    ((r_2 ≤ x5 →
      K S_1 x4) ∧
    (¬ r_2 ≤ x5 →
      LX3_findCheapest_14 x2 K Q n S_1 (x4 * 3) (x5 + 1)))
def JX3_findCheapest_102 (S : MS) (x2 : Int64) (x4 : Int32) (x5 : Int32) (x6 : Int32) (Hd : MS → Int32 → Int32 → Prop) (K : MS → Int32 → Prop) (Q : Int32 → MS → Prop) : Prop :=
  Hd S x5 (x6 + 1)
def JX3_findCheapest_77 (S : MS) (x2 : Int64) (x4 : Int32) (x5 : Int32) (x6 : Int32) (x7 : Int32) (Hd : MS → Int32 → Int32 → Prop) (K : MS → Int32 → Prop) (Q : Int32 → MS → Prop) : Prop :=
  wX3_keepsLaw S x2 fun r_2 S_1 =>
  ((r_2 = 0 →
    JX3_findCheapest_102 S_1 x2 x4 x5 x6 Hd K Q) ∧
  (¬ r_2 = 0 →
    ∀ S_3 : MS, S_3 = uF S_1 6 x7 →
    wX3_toldChoices S_3 fun r_5 S_4 =>
    ∀ S_6 : MS, S_6 = uF S_4 7 r_5 →
    JX3_findCheapest_102 S_6 x2 x4 1 x6 Hd K Q))
def LX3_findCheapest_44 (x2 : Int64) (x4 : Int32) (K : MS → Int32 → Prop) (Q : Int32 → MS → Prop) : Nat → MS → Int32 → Int32 → Prop
  | 0, _, _, _ => False
  | n + 1, S, x5, x6 =>
    ((x4 ≤ x6 →
      K S x5) ∧
    (¬ x4 ≤ x6 →
      wX3_takeChoices S x6 fun S_1 =>
      wX3_costOfChoices S_1 fun r_4 S_3 =>
      ((x5 = 0 →
        JX3_findCheapest_77 S_3 x2 x4 x5 x6 r_4 (fun S a5 a6 => LX3_findCheapest_44 x2 x4 K Q n S a5 a6) K Q) ∧
      (¬ x5 = 0 →
        (((S_3.2.2 6) ≤ r_4 →
          JX3_findCheapest_102 S_3 x2 x4 x5 x6 (fun S a5 a6 => LX3_findCheapest_44 x2 x4 K Q n S a5 a6) K Q) ∧
        (¬ (S_3.2.2 6) ≤ r_4 →
          JX3_findCheapest_77 S_3 x2 x4 x5 x6 r_4 (fun S a5 a6 => LX3_findCheapest_44 x2 x4 K Q n S a5 a6) K Q))))))
def wX3_findCheapest (S : MS) (x1 : Int32) (x2 : Int64) (Q : Int32 → MS → Prop) : Prop :=
  wX1_startFailing S x1 fun S_1 =>
  ∃ n0 : Nat, LX3_findCheapest_14 x2 (fun S_3 y_4 =>
    ∃ n0 : Nat, LX3_findCheapest_44 x2 y_4 (fun S_5 y_6 =>
      narrow .boolean (.int y_6) = .int y_6 ∧ Q y_6 S_5) Q n0 S_3 0 0) Q n0 S_1 1 0
def wX4_has (S : MS) (x1 : Int32) (Q : Int32 → MS → Prop) : Prop :=
  ((x1 < 0 →
    Q 0 S) ∧
  (¬ x1 < 0 →
    (((S.2.2 3) ≤ x1 →
      Q 0 S) ∧
    (¬ (S.2.2 3) ≤ x1 →
      Q 1 S))))
def wX4_size (S : MS) (Q : Int32 → MS → Prop) : Prop :=
  Q (S.2.2 3) S
def wX4_partsOfInput (S : MS) (x1 : Int32) (Q : Int32 → MS → Prop) : Prop :=
  (((12 : Int32) ≤ x1 →
    vp_in (x1 - 12) 12 ∧
    Q (S.1 11 (x1 - 12).toNatClampNeg) S) ∧
  (¬ (12 : Int32) ≤ x1 →
    Q ((1 : Int32) <<< (x1 &&& 31)) S))
def JX5_spread_37 (S : MS) (x0 : Int32) (x1 : Int32) (x2 : Int32) (x3 : Int32) (x4 : Int32) (Hd : MS → Int32 → Int32 → Int32 → Prop) (K : MS → Int32 → Prop) (Q : Int32 → MS → Prop) : Prop :=
  Hd S x2 x3 (x4 + 1)
def LX5_spread_7 (x0 : Int32) (x1 : Int32) (K : MS → Int32 → Prop) (Q : Int32 → MS → Prop) : Nat → MS → Int32 → Int32 → Int32 → Prop
  | 0, _, _, _, _ => False
  | n + 1, S, x2, x3, x4 =>
    (((12 : Int32) ≤ x4 →
      K S x2) ∧
    (¬ (12 : Int32) ≤ x4 →
      wX5_hasBit S x1 x4 fun r_2 S_1 =>
      ((r_2 = 0 →
        JX5_spread_37 S_1 x0 x1 x2 x3 x4 (fun S a2 a3 a4 => LX5_spread_7 x0 x1 K Q n S a2 a3 a4) K Q) ∧
      (¬ r_2 = 0 →
        ∀ v_3 : Int32, v_3 = (x2 ||| (((jiushr x0 x3) &&& 1) <<< (x4 &&& 31))) →
        JX5_spread_37 S_1 x0 x1 v_3 (x3 + 1) x4 (fun S a2 a3 a4 => LX5_spread_7 x0 x1 K Q n S a2 a3 a4) K Q))))
def wX5_spread (S : MS) (x0 : Int32) (x1 : Int32) (Q : Int32 → MS → Prop) : Prop :=
  ∃ n0 : Nat, LX5_spread_7 x0 x1 (fun S_1 y_2 =>
    Q y_2 S_1) Q n0 S 0 0 0
def wX4_inputActs (S : MS) (x1 : Int32) (x2 : Int32) (Q : Int32 → MS → Prop) : Prop :=
  (((12 : Int32) ≤ x1 →
    vp_in (x1 - 12) 12 ∧
    wX5_packed S x2 (S.1 11 (x1 - 12).toNatClampNeg) fun r_2 S_1 =>
    wX4_actsIn S_1 (x1 - 12) r_2 fun r_4 S_3 =>
    narrow .boolean (.int r_4) = .int r_4 ∧ Q r_4 S_3) ∧
  (¬ (12 : Int32) ≤ x1 →
    wX5_hasBit S x2 x1 fun r_6 S_5 =>
    narrow .boolean (.int r_6) = .int r_6 ∧ Q r_6 S_5))
def JX4_actingInputs_38 (S : MS) (x1 : Int32) (x2 : Int32) (x3 : Int32) (x4 : Int32) (Hd : MS → Int32 → Int32 → Prop) (K : MS → Int32 → Prop) (Q : Int32 → MS → Prop) : Prop :=
  Hd S x3 (x4 + 1)
def LX4_actingInputs_5 (x1 : Int32) (x2 : Int32) (K : MS → Int32 → Prop) (Q : Int32 → MS → Prop) : Nat → MS → Int32 → Int32 → Prop
  | 0, _, _, _ => False
  | n + 1, S, x3, x4 =>
    vp_in x1 12 ∧
    (((S.1 9 x1.toNatClampNeg) ≤ x4 →
      K S x3) ∧
    (¬ (S.1 9 x1.toNatClampNeg) ≤ x4 →
      vp_in ((x1 * 4) + x4) 48 ∧
      wX4_inputActs S (S.1 10 ((x1 * 4) + x4).toNatClampNeg) x2 fun r_2 S_1 =>
      ((r_2 = 0 →
        JX4_actingInputs_38 S_1 x1 x2 x3 x4 (fun S a3 a4 => LX4_actingInputs_5 x1 x2 K Q n S a3 a4) K Q) ∧
      (¬ r_2 = 0 →
        JX4_actingInputs_38 S_1 x1 x2 (x3 + 1) x4 (fun S a3 a4 => LX4_actingInputs_5 x1 x2 K Q n S a3 a4) K Q))))
def wX4_actingInputs (S : MS) (x1 : Int32) (x2 : Int32) (Q : Int32 → MS → Prop) : Prop :=
  ∃ n0 : Nat, LX4_actingInputs_5 x1 x2 (fun S_1 y_2 =>
    Q y_2 S_1) Q n0 S 0 0
def JX4_workOutActingSets_61 (S : MS) (x1 : Int32) (x2 : Int32) (x3 : Int32) (Hd : MS → Int32 → Prop) (K : MS → Prop) (Q : MS → Prop) : Prop :=
  Hd S (x3 + 1)
def LX4_workOutActingSets_10 (x1 : Int32) (x2 : Int32) (K : MS → Prop) (Q : MS → Prop) : Nat → MS → Int32 → Prop
  | 0, _, _ => False
  | n + 1, S, x3 =>
    ((x2 ≤ x3 →
      K S ) ∧
    (¬ x2 ≤ x3 →
      vp_in x1 12 ∧
      wX5_spread S x3 (S.1 11 x1.toNatClampNeg) fun r_2 S_1 =>
      wX4_actingInputs S_1 x1 r_2 fun r_4 S_3 =>
      vp_in x1 12 ∧
      ((r_4 < (S_3.1 8 x1.toNatClampNeg) →
        JX4_workOutActingSets_61 S_3 x1 x2 x3 (fun S a3 => LX4_workOutActingSets_10 x1 x2 K Q n S a3) K Q) ∧
      (¬ r_4 < (S_3.1 8 x1.toNatClampNeg) →
        vp_in ((x1 * 4) + (x3 >>> ((6 : Int32) &&& 31))) 48 ∧
        vp_in ((x1 * 4) + (x3 >>> ((6 : Int32) &&& 31))) 48 ∧
        ∀ S_5 : MS, S_5 = uL S_3 1 ((x1 * 4) + (x3 >>> ((6 : Int32) &&& 31))).toNatClampNeg ((S_3.2.1 1 ((x1 * 4) + (x3 >>> ((6 : Int32) &&& 31))).toNatClampNeg) ||| (jlshl 1 (x3 &&& 63))) →
        JX4_workOutActingSets_61 S_5 x1 x2 x3 (fun S a3 => LX4_workOutActingSets_10 x1 x2 K Q n S a3) K Q))))
def wX4_workOutActingSets (S : MS) (x1 : Int32) (Q : MS → Prop) : Prop :=
  wX4_sizeBelow S x1 fun r_2 S_1 =>
  ∃ n0 : Nat, LX4_workOutActingSets_10 x1 ((1 : Int32) <<< (r_2 &&& 31)) (fun S_3 =>
    Q S_3) Q n0 S_1 0
def LX4_add_37 (x2 : Int32) (x4 : Int32) (K : MS → Prop) (Q : Int32 → MS → Prop) : Nat → MS → Int32 → Prop
  | 0, _, _ => False
  | n + 1, S, x5 =>
    ((x2 ≤ x5 →
      K S ) ∧
    (¬ x2 ≤ x5 →
      vp_in x5 4 ∧
      vp_in ((x4 * 4) + x5) 48 ∧
      ∀ S_1 : MS, S_1 = uI S 10 ((x4 * 4) + x5).toNatClampNeg (S.1 16 x5.toNatClampNeg) →
      vp_in x4 12 ∧
      vp_in x5 4 ∧
      wX4_partsOfInput S_1 (S_1.1 16 x5.toNatClampNeg) fun r_3 S_2 =>
      vp_in x4 12 ∧
      ∀ S_4 : MS, S_4 = uI S_2 11 x4.toNatClampNeg ((S_1.1 11 x4.toNatClampNeg) ||| r_3) →
      LX4_add_37 x2 x4 K Q n S_4 (x5 + 1)))
def JX4_add_100 (S : MS) (x4 : Int32) (Q : Int32 → MS → Prop) : Prop :=
  ∀ S_1 : MS, S_1 = uF S 3 ((S.2.2 3) + 1) →
  Q x4 S_1
def wX4_add (S : MS) (x1 : Int32) (x2 : Int32) (Q : Int32 → MS → Prop) : Prop :=
  (((S.2.2 3) < 12 →
    vp_in (S.2.2 3) 12 ∧
    ∀ S_1 : MS, S_1 = uI S 8 (S.2.2 3).toNatClampNeg x1 →
    vp_in (S.2.2 3) 12 ∧
    ∀ S_2 : MS, S_2 = uI S_1 9 (S.2.2 3).toNatClampNeg x2 →
    ∃ n0 : Nat, LX4_add_37 x2 (S.2.2 3) (fun S_3 =>
      wX4_sizeBelow S_3 (S.2.2 3) fun r_5 S_4 =>
      (((8 : Int32) < r_5 →
        JX4_add_100 S_4 (S.2.2 3) Q) ∧
      (¬ (8 : Int32) < r_5 →
        wX4_workOutActingSets S_4 (S.2.2 3) fun S_6 =>
        JX4_add_100 S_6 (S.2.2 3) Q))) Q n0 S_2 0) ∧
  (¬ (S.2.2 3) < 12 →
    Q (-3) S))
def wX5_isShare (S : MS) (x0 : Int32) (Q : Int32 → MS → Prop) : Prop :=
  ((x0 < 0 →
    Q 0 S) ∧
  (¬ x0 < 0 →
    (((64 : Int32) < x0 →
      Q 0 S) ∧
    (¬ (64 : Int32) < x0 →
      Q 1 S))))
def wX5_part (S : MS) (x1 : Int32) (x2 : Int32) (x3 : Int32) (Q : Int32 → MS → Prop) : Prop :=
  wX5_isShare S x1 fun r_2 S_1 =>
  ((r_2 = 0 →
    Q (-1) S_1) ∧
  (¬ r_2 = 0 →
    wX5_isShare S_1 x2 fun r_4 S_3 =>
    ((r_4 = 0 →
      Q (-1) S_3) ∧
    (¬ r_4 = 0 →
      wX5_isShare S_3 x3 fun r_6 S_5 =>
      ((r_6 = 0 →
        Q (-1) S_5) ∧
      (¬ r_6 = 0 →
        wX2_add S_5 x1 x2 x3 fun r_8 S_7 =>
        Q r_8 S_7))))))
def wX5_isDay (S : MS) (x0 : Int32) (Q : Int32 → MS → Prop) : Prop :=
  ((x0 < 0 →
    Q 0 S) ∧
  (¬ x0 < 0 →
    (((999 : Int32) < x0 →
      Q 0 S) ∧
    (¬ (999 : Int32) < x0 →
      Q 1 S))))
def wX5_test (S : MS) (x1 : Int32) (x2 : Int32) (Q : Int32 → MS → Prop) : Prop :=
  wX2_has S x1 fun r_2 S_1 =>
  ((r_2 = 0 →
    Q (-1) S_1) ∧
  (¬ r_2 = 0 →
    wX5_isDay S_1 x2 fun r_4 S_3 =>
    ((r_4 = 0 →
      Q (-1) S_3) ∧
    (¬ r_4 = 0 →
      wX2_addTest S_3 x1 x2 fun r_6 S_5 =>
      Q r_6 S_5))))
def wX5_noTests (S : MS) (x1 : Int32) (x2 : Int32) (Q : Int32 → MS → Prop) : Prop :=
  wX2_has S x1 fun r_2 S_1 =>
  ((r_2 = 0 →
    Q (-1) S_1) ∧
  (¬ r_2 = 0 →
    wX5_isDay S_1 x2 fun r_4 S_3 =>
    ((r_4 = 0 →
      Q (-1) S_3) ∧
    (¬ r_4 = 0 →
      wX2_dropTests S_3 x1 x2 fun r_6 S_5 =>
      Q r_6 S_5))))
def wX5_areDays (S : MS) (x0 : Int32) (x1 : Int32) (Q : Int32 → MS → Prop) : Prop :=
  wX5_isDay S x0 fun r_2 S_1 =>
  ((r_2 = 0 →
    Q 0 S_1) ∧
  (¬ r_2 = 0 →
    wX5_isDay S_1 x1 fun r_4 S_3 =>
    ((r_4 = 0 →
      Q 0 S_3) ∧
    (¬ r_4 = 0 →
      ((x1 < x0 →
        Q 0 S_3) ∧
      (¬ x1 < x0 →
        Q 1 S_3))))))
def wX5_bypass (S : MS) (x1 : Int32) (x2 : Int32) (x3 : Int32) (Q : Int32 → MS → Prop) : Prop :=
  wX2_has S x1 fun r_2 S_1 =>
  ((r_2 = 0 →
    Q (-1) S_1) ∧
  (¬ r_2 = 0 →
    wX5_areDays S_1 x2 x3 fun r_4 S_3 =>
    ((r_4 = 0 →
      Q (-1) S_3) ∧
    (¬ r_4 = 0 →
      wX2_addBypass S_3 x1 x2 x3 fun r_6 S_5 =>
      Q r_6 S_5))))
def wX5_bypassed (S : MS) (x1 : Int32) (x2 : Int32) (x3 : Int32) (Q : Int32 → MS → Prop) : Prop :=
  wX2_has S x1 fun r_2 S_1 =>
  ((r_2 = 0 →
    Q (-1) S_1) ∧
  (¬ r_2 = 0 →
    wX5_areDays S_1 x2 x3 fun r_4 S_3 =>
    ((r_4 = 0 →
      Q (-1) S_3) ∧
    (¬ r_4 = 0 →
      wX2_bypassedDays S_3 x1 x2 x3 fun r_6 S_5 =>
      Q r_6 S_5))))
def wX5_group (S : MS) (x1 : Int32) (x2 : Int32) (Q : Int32 → MS → Prop) : Prop :=
  wX5_isShare S x1 fun r_2 S_1 =>
  ((r_2 = 0 →
    Q (-1) S_1) ∧
  (¬ r_2 = 0 →
    wX2_hasAll S_1 x2 fun r_4 S_3 =>
    ((r_4 = 0 →
      Q (-1) S_3) ∧
    (¬ r_4 = 0 →
      wJ6_bitCount_0f7a4 S_3 x2 fun r_6 S_5 =>
      (((2 : Int32) ≤ r_6 →
        wX0_add S_5 x1 x2 fun r_8 S_7 =>
        Q r_8 S_7) ∧
      (¬ (2 : Int32) ≤ r_6 →
        Q (-1) S_5))))))
def wX5_isInput (S : MS) (x1 : Int32) (Q : Int32 → MS → Prop) : Prop :=
  (((12 : Int32) ≤ x1 →
    wX4_has S (x1 - 12) fun r_2 S_1 =>
    narrow .boolean (.int r_2) = .int r_2 ∧ Q r_2 S_1) ∧
  (¬ (12 : Int32) ≤ x1 →
    wX2_has S x1 fun r_4 S_3 =>
    narrow .boolean (.int r_4) = .int r_4 ∧ Q r_4 S_3))
def LX5_vote_56 (x1 : Int32) (x2 : Int32) (K : MS → Prop) (Q : Int32 → MS → Prop) : Nat → MS → Int32 → Prop
  | 0, _, _ => False
  | n + 1, S, x7 =>
    ((x2 ≤ x7 →
      K S ) ∧
    (¬ x2 ≤ x7 →
      vp_in x7 4 ∧
      wX5_isInput S (S.1 16 x7.toNatClampNeg) fun r_2 S_1 =>
      ((r_2 = 0 →
        Q (-1) S_1) ∧
      (¬ r_2 = 0 →
        LX5_vote_56 x1 x2 K Q n S_1 (x7 + 1)))))
def wX5_vote (S : MS) (x1 : Int32) (x2 : Int32) (x3 : Int32) (x4 : Int32) (x5 : Int32) (x6 : Int32) (Q : Int32 → MS → Prop) : Prop :=
  ((x2 < 1 →
    Q (-1) S) ∧
  (¬ x2 < 1 →
    (((4 : Int32) < x2 →
      Q (-1) S) ∧
    (¬ (4 : Int32) < x2 →
      ((x1 < 1 →
        Q (-1) S) ∧
      (¬ x1 < 1 →
        ((x1 ≤ x2 →
          vp_in 0 4 ∧
          ∀ S_1 : MS, S_1 = uI S 16 (0 : Int32).toNatClampNeg x3 →
          vp_in 1 4 ∧
          ∀ S_2 : MS, S_2 = uI S_1 16 (1 : Int32).toNatClampNeg x4 →
          vp_in 2 4 ∧
          ∀ S_3 : MS, S_3 = uI S_2 16 (2 : Int32).toNatClampNeg x5 →
          vp_in 3 4 ∧
          ∀ S_4 : MS, S_4 = uI S_3 16 (3 : Int32).toNatClampNeg x6 →
          ∃ n0 : Nat, LX5_vote_56 x1 x2 (fun S_5 =>
            wX4_add S_5 x1 x2 fun r_7 S_6 =>
            Q r_7 S_6) Q n0 S_4 0) ∧
        (¬ x1 ≤ x2 →
          Q (-1) S))))))))
def wX5_share (S : MS) (x1 : Int32) (x2 : Int32) (Q : Int32 → MS → Prop) : Prop :=
  wX2_has S x1 fun r_2 S_1 =>
  ((r_2 = 0 →
    Q (-1) S_1) ∧
  (¬ r_2 = 0 →
    wX5_isDay S_1 x2 fun r_4 S_3 =>
    ((r_4 = 0 →
      Q (-1) S_3) ∧
    (¬ r_4 = 0 →
      wX2_shareOn S_3 x1 x2 fun r_6 S_5 =>
      Q r_6 S_5))))
def wX5_below (S : MS) (x1 : Int32) (x2 : Int32) (Q : Int32 → MS → Prop) : Prop :=
  wX4_has S x1 fun r_2 S_1 =>
  ((r_2 = 0 →
    Q (-1) S_1) ∧
  (¬ r_2 = 0 →
    ((x2 = 0 →
      wX4_partsBelow S_1 x1 fun r_4 S_3 =>
      Q r_4 S_3) ∧
    (x2 = 1 →
      wX1_groupsOf S_1 x1 fun r_6 S_5 =>
      Q r_6 S_5) ∧
    (x2 = 2 →
      wX1_eventsOf S_1 x1 fun r_8 S_7 =>
      Q r_8 S_7) ∧
    (¬ x2 = 0 → ¬ x2 = 1 → ¬ x2 = 2 → 
    Q (-1) S_1))))
def wX5_shared (S : MS) (x1 : Int32) (x2 : Int32) (Q : Int32 → MS → Prop) : Prop :=
  wX4_has S x1 fun r_2 S_1 =>
  ((r_2 = 0 →
    Q (-1) S_1) ∧
  (¬ r_2 = 0 →
    wX4_has S_1 x2 fun r_4 S_3 =>
    ((r_4 = 0 →
      Q (-1) S_3) ∧
    (¬ r_4 = 0 →
      wX1_groupsOf S_3 x1 fun r_6 S_5 =>
      wX1_groupsOf S_5 x2 fun r_8 S_7 =>
      wX4_partsBelow S_7 x1 fun r_10 S_9 =>
      wX4_partsBelow S_9 x2 fun r_12 S_11 =>
      Q ((r_10 &&& r_12) ||| ((r_6 &&& r_8) <<< ((12 : Int32) &&& 31))) S_11))))
def wX5_chance (S : MS) (x1 : Int32) (x2 : Int32) (Q : Int64 → MS → Prop) : Prop :=
  wX4_has S x1 fun r_2 S_1 =>
  ((r_2 = 0 →
    Q (-1) S_1) ∧
  (¬ r_2 = 0 →
    wX5_isDay S_1 x2 fun r_4 S_3 =>
    ((r_4 = 0 →
      Q (-1) S_3) ∧
    (¬ r_4 = 0 →
      wX1_hasTooManyEvents S_3 x1 fun r_6 S_5 =>
      ((r_6 = 0 →
        wX1_startFailing S_5 x1 fun S_7 =>
        wX1_onDay S_7 x2 fun r_10 S_9 =>
        Q r_10 S_9) ∧
      (¬ r_6 = 0 →
        Q (-2) S_5))))))
def wX5_areSummedDays (S : MS) (x0 : Int32) (x1 : Int32) (Q : Int32 → MS → Prop) : Prop :=
  wX5_areDays S x0 x1 fun r_2 S_1 =>
  ((r_2 = 0 →
    Q 0 S_1) ∧
  (¬ r_2 = 0 →
    (((200 : Int32) ≤ (x1 - x0) →
      Q 0 S_1) ∧
    (¬ (200 : Int32) ≤ (x1 - x0) →
      Q 1 S_1))))
def LX5_over_52 (x3 : Int32) (K : MS → Int64 → Prop) (Q : Int64 → MS → Prop) : Nat → MS → Int64 → Int32 → Prop
  | 0, _, _, _ => False
  | n + 1, S, x4, x6 =>
    ((x3 < x6 →
      K S x4) ∧
    (¬ x3 < x6 →
      wX1_onDay S x6 fun r_2 S_1 =>
      LX5_over_52 x3 K Q n S_1 (x4 + r_2) (x6 + 1)))
def wX5_over (S : MS) (x1 : Int32) (x2 : Int32) (x3 : Int32) (Q : Int64 → MS → Prop) : Prop :=
  wX4_has S x1 fun r_2 S_1 =>
  ((r_2 = 0 →
    Q (-1) S_1) ∧
  (¬ r_2 = 0 →
    wX5_areSummedDays S_1 x2 x3 fun r_4 S_3 =>
    ((r_4 = 0 →
      Q (-1) S_3) ∧
    (¬ r_4 = 0 →
      wX1_hasTooManyEvents S_3 x1 fun r_6 S_5 =>
      ((r_6 = 0 →
        wX1_startFailing S_5 x1 fun S_7 =>
        ∃ n0 : Nat, LX5_over_52 x3 (fun S_9 y_10 =>
          Q y_10 S_9) Q n0 S_7 0 x2) ∧
      (¬ r_6 = 0 →
        Q (-2) S_5))))))
def LX5_broken_62 (x3 : Int32) (x4 : Int64) (K : MS → Prop) (Q : Int32 → MS → Prop) : Nat → MS → Int32 → Prop
  | 0, _, _ => False
  | n + 1, S, x6 =>
    ((x3 < x6 →
      K S ) ∧
    (¬ x3 < x6 →
      wX1_onDay S x6 fun r_2 S_1 =>
      (((lg_cmp r_2 x4) ≤ 0 →
        LX5_broken_62 x3 x4 K Q n S_1 (x6 + 1)) ∧
      (¬ (lg_cmp r_2 x4) ≤ 0 →
        Q x6 S_1))))
def wX5_broken (S : MS) (x1 : Int32) (x2 : Int32) (x3 : Int32) (x4 : Int64) (Q : Int32 → MS → Prop) : Prop :=
  wX4_has S x1 fun r_2 S_1 =>
  ((r_2 = 0 →
    Q (-1) S_1) ∧
  (¬ r_2 = 0 →
    wX5_areSummedDays S_1 x2 x3 fun r_4 S_3 =>
    ((r_4 = 0 →
      Q (-1) S_3) ∧
    (¬ r_4 = 0 →
      (((lg_cmp x4 0) < 0 →
        Q (-1) S_3) ∧
      (¬ (lg_cmp x4 0) < 0 →
        (((lg_cmp x4 281474976710656) ≤ 0 →
          wX1_hasTooManyEvents S_3 x1 fun r_6 S_5 =>
          ((r_6 = 0 →
            wX1_startFailing S_5 x1 fun S_7 =>
            ∃ n0 : Nat, LX5_broken_62 x3 x4 (fun S_9 =>
              Q (-4) S_9) Q n0 S_7 x2) ∧
          (¬ r_6 = 0 →
            Q (-2) S_5))) ∧
        (¬ (lg_cmp x4 281474976710656) ≤ 0 →
          Q (-1) S_3))))))))
def wX5_nothing (S : MS) (x1 : Int32) (Q : Int64 → MS → Prop) : Prop :=
  wX4_has S x1 fun r_2 S_1 =>
  ((r_2 = 0 →
    Q (-1) S_1) ∧
  (¬ r_2 = 0 →
    wX4_sizeBelow S_1 x1 fun r_4 S_3 =>
    ((r_4 ≤ 8 →
      wX1_forNothing S_3 x1 fun r_6 S_5 =>
      Q r_6 S_5) ∧
    (¬ r_4 ≤ 8 →
      Q (-2) S_3))))
def wX5_matters (S : MS) (x1 : Int32) (x2 : Int32) (x3 : Int32) (Q : Int64 → MS → Prop) : Prop :=
  wX4_has S x1 fun r_2 S_1 =>
  ((r_2 = 0 →
    Q (-1) S_1) ∧
  (¬ r_2 = 0 →
    wX2_has S_1 x2 fun r_4 S_3 =>
    ((r_4 = 0 →
      Q (-1) S_3) ∧
    (¬ r_4 = 0 →
      wX5_isDay S_3 x3 fun r_6 S_5 =>
      ((r_6 = 0 →
        Q (-1) S_5) ∧
      (¬ r_6 = 0 →
        wX1_hasTooManyEvents S_5 x1 fun r_8 S_7 =>
        ((r_8 = 0 →
          wX1_startFailing S_7 x1 fun S_9 =>
          wX1_weightOf S_9 x2 x3 fun r_12 S_11 =>
          Q r_12 S_11) ∧
        (¬ r_8 = 0 →
          Q (-2) S_7))))))))
def wX5_most (S : MS) (x1 : Int32) (x2 : Int32) (Q : Int32 → MS → Prop) : Prop :=
  wX4_has S x1 fun r_2 S_1 =>
  ((r_2 = 0 →
    Q (-1) S_1) ∧
  (¬ r_2 = 0 →
    wX5_isDay S_1 x2 fun r_4 S_3 =>
    ((r_4 = 0 →
      Q (-1) S_3) ∧
    (¬ r_4 = 0 →
      wX1_hasTooManyEvents S_3 x1 fun r_6 S_5 =>
      ((r_6 = 0 →
        wX1_startFailing S_5 x1 fun S_7 =>
        wX1_weightiestPart S_7 x2 fun r_10 S_9 =>
        Q r_10 S_9) ∧
      (¬ r_6 = 0 →
        Q (-2) S_5))))))
def wX5_cost (S : MS) (x1 : Int32) (x2 : Int32) (Q : Int32 → MS → Prop) : Prop :=
  wX2_has S x1 fun r_2 S_1 =>
  ((r_2 = 0 →
    Q (-1) S_1) ∧
  (¬ r_2 = 0 →
    ((x2 < 0 →
      Q (-1) S_1) ∧
    (¬ x2 < 0 →
      ((x2 ≤ 1000 →
        wX2_changeCost S_1 x1 x2 fun r_4 S_3 =>
        Q r_4 S_3) ∧
      (¬ x2 ≤ 1000 →
        Q (-1) S_1))))))
def wX5_isInterval (S : MS) (x0 : Int32) (Q : Int32 → MS → Prop) : Prop :=
  ((x0 < 1 →
    Q 0 S) ∧
  (¬ x0 < 1 →
    (((100 : Int32) < x0 →
      Q 0 S) ∧
    (¬ (100 : Int32) < x0 →
      Q 1 S))))
def wX5_plan (S : MS) (x1 : Int32) (x2 : Int32) (x3 : Int32) (x4 : Int32) (x5 : Int64) (x7 : Int32) (Q : Int32 → MS → Prop) : Prop :=
  wX4_has S x1 fun r_2 S_1 =>
  ((r_2 = 0 →
    Q (-1) S_1) ∧
  (¬ r_2 = 0 →
    wX5_isInterval S_1 x2 fun r_4 S_3 =>
    ((r_4 = 0 →
      Q (-1) S_3) ∧
    (¬ r_4 = 0 →
      wX5_isInterval S_3 x3 fun r_6 S_5 =>
      ((r_6 = 0 →
        Q (-1) S_5) ∧
      (¬ r_6 = 0 →
        wX5_isInterval S_5 x4 fun r_8 S_7 =>
        ((r_8 = 0 →
          Q (-1) S_7) ∧
        (¬ r_8 = 0 →
          (((lg_cmp x5 0) < 0 →
            Q (-1) S_7) ∧
          (¬ (lg_cmp x5 0) < 0 →
            (((0 : Int32) < (lg_cmp x5 28147497671065600) →
              Q (-1) S_7) ∧
            (¬ (0 : Int32) < (lg_cmp x5 28147497671065600) →
              ((x7 < 0 →
                Q (-1) S_7) ∧
              (¬ x7 < 0 →
                ((x7 ≤ 1 →
                  wX4_sizeBelow S_7 x1 fun r_10 S_9 =>
                  (((3 : Int32) < r_10 →
                    Q (-2) S_9) ∧
                  (¬ (3 : Int32) < r_10 →
                    wX1_hasTooManyEvents S_9 x1 fun r_12 S_11 =>
                    ((r_12 = 0 →
                      wX3_setIntervals S_11 x2 x3 x4 fun S_13 =>
                      wX3_findCheapest S_13 x1 x5 fun r_16 S_15 =>
                      ((r_16 = 0 →
                        Q (-4) S_15) ∧
                      (¬ r_16 = 0 →
                        ((x7 = 0 →
                          wX3_cheapestCost S_15 fun r_20 S_19 =>
                          Q r_20 S_19) ∧
                        (¬ x7 = 0 →
                          wX3_cheapestChoices S_15 fun r_18 S_17 =>
                          Q r_18 S_17))))) ∧
                    (¬ r_12 = 0 →
                      Q (-2) S_11))))) ∧
                (¬ x7 ≤ 1 →
                  Q (-1) S_7))))))))))))))))
def wX5_count (S : MS) (x1 : Int32) (Q : Int32 → MS → Prop) : Prop :=
  ((x1 = 0 →
    wX2_size S fun r_2 S_1 =>
    Q r_2 S_1) ∧
  (x1 = 1 →
    wX2_allTests S fun r_4 S_3 =>
    Q r_4 S_3) ∧
  (x1 = 2 →
    wX2_allBypasses S fun r_6 S_5 =>
    Q r_6 S_5) ∧
  (x1 = 3 →
    wX0_size S fun r_8 S_7 =>
    Q r_8 S_7) ∧
  (x1 = 4 →
    wX4_size S fun r_10 S_9 =>
    Q r_10 S_9) ∧
  (¬ x1 = 0 → ¬ x1 = 1 → ¬ x1 = 2 → ¬ x1 = 3 → ¬ x1 = 4 → 
  Q (-1) S))
end
section
set_option maxHeartbeats 4000000 in
set_option maxRecDepth 100000 in
theorem mX0_size (l : Launch) (D : va_G) (ad : Nat → Nat) (cI cL : ClassId) (S : MS) (Q : Int32 → MS → Prop) (hq : wX0_size S Q) : Mi l yX0_size cX0_size 1 (some .int) { frames := 0, cells := 0, slots := 0, locals := 0 } D (ctys cI cL) (cw ad cI cL) [.ref (ad 2)] S Q := by
  refine Mi.of (by decide +kernel) (Nat.le_of_ble_eq_true rfl) ?_
  intro p e s m args below meth c A ls C hw hl
  have hx := C.1
  have hb := C.2.1
  have hl : lv_has ls 1 [(0, .ref (ad 2))] := hl
  have hw : WW D (ctys cI cL) (cw ad cI cL S) A s s.heap [] := hw
  unfold wX0_size at hq
  refine lv_aload_n hx hb dX0_size_0 rfl (lv_at hl 0 rfl) ?_
  refine w_get C hw uw_X0 2 cO_X0 rfl 2 (by decide) fl_X0_18 rfl dX0_size_1 ?_
  exact w_iret C hw hq dX0_size_4
set_option maxHeartbeats 4000000 in
set_option maxRecDepth 100000 in
theorem mX0_add (l : Launch) (D : va_G) (ad : Nat → Nat) (cI cL : ClassId) (S : MS) (x1 : Int32) (x2 : Int32) (Q : Int32 → MS → Prop) (hq : wX0_add S x1 x2 Q) : Mi l yX0_add cX0_add 3 (some .int) { frames := 0, cells := 0, slots := 0, locals := 0 } D (ctys cI cL) (cw ad cI cL) [.ref (ad 2), .int x1, .int x2] S Q := by
  refine Mi.of (by decide +kernel) (Nat.le_of_ble_eq_true rfl) ?_
  intro p e s m args below meth c A ls C hw hl
  have hx := C.1
  have hb := C.2.1
  have hl : lv_has ls 3 [(0, .ref (ad 2)), (1, .int x1), (2, .int x2)] := hl
  have hw : WW D (ctys cI cL) (cw ad cI cL S) A s s.heap [] := hw
  unfold wX0_add at hq
  refine lv_aload_n hx hb dX0_add_0 rfl (lv_at hl 0 rfl) ?_
  refine w_get C hw uw_X0 2 cO_X0 rfl 2 (by decide) fl_X0_18 rfl dX0_add_1 ?_
  refine lv_iconst (v := 4) hx hb dX0_add_4 (by decide) ?_
  refine lv_icmp_lt (tgt := 11) hx hb dX0_add_5 (by decide) (fun hc => ?_) (fun hc => ?_)
  · replace hq := hq.1 hc
    refine lv_aload_n hx hb dX0_add_11 rfl (lv_at hl 0 rfl) ?_
    refine w_get C hw uw_X0 2 cO_X0 rfl 0 (by decide) fl_X0_9 rfl dX0_add_12 ?_
    refine lv_aload_n hx hb dX0_add_15 rfl (lv_at hl 0 rfl) ?_
    refine w_get C hw uw_X0 2 cO_X0 rfl 2 (by decide) fl_X0_18 rfl dX0_add_16 ?_
    refine lv_iload_n hx hb dX0_add_19 rfl (lv_at hl 1 rfl) ?_
    obtain ⟨hin, hq⟩ := hq
    obtain ⟨S_1, eS_1⟩ : ∃ z, z = uI S 6 (S.2.2 2).toNatClampNeg x1 := ⟨_, rfl⟩
    replace hq := hq S_1 eS_1
    refine w_ist (ws' := cw ad cI cL S_1) C hw 12 0 cI_6 rfl hin dX0_add_20 (by rw [eS_1]; exact cIs_6) (fun H locs hw => ?_)
    refine lv_aload_n hx hb dX0_add_21 rfl (lv_at hl 0 rfl) ?_
    refine w_get C hw uw_X0 2 cO_X0 rfl 1 (by decide) fl_X0_15 rfl dX0_add_22 ?_
    refine lv_aload_n hx hb dX0_add_25 rfl (lv_at hl 0 rfl) ?_
    refine w_get C hw uw_X0 2 cO_X0 rfl 2 (by decide) fl_X0_18 rfl dX0_add_26 ?_
    refine lv_iload_n hx hb dX0_add_29 rfl (lv_at hl 2 rfl) ?_
    obtain ⟨hin, hq⟩ := hq
    obtain ⟨S_2, eS_2⟩ : ∃ z, z = uI S_1 7 (S_1.2.2 2).toNatClampNeg x2 := ⟨_, rfl⟩
    replace hq := hq S_2 eS_2
    refine w_ist (ws' := cw ad cI cL S_2) C hw 13 0 cI_7 rfl hin dX0_add_30 (by rw [eS_2]; exact cIs_7) (fun H locs hw => ?_)
    refine lv_aload_n hx hb dX0_add_31 rfl (lv_at hl 0 rfl) ?_
    refine lv_dup hx hb dX0_add_32 rfl ?_
    refine w_get C hw uw_X0 2 cO_X0 rfl 2 (by decide) fl_X0_18 rfl dX0_add_33 ?_
    refine lv_iconst (v := 1) hx hb dX0_add_36 (by decide) ?_
    refine lv_iadd hx hb dX0_add_37 ?_
    obtain ⟨S_3, eS_3⟩ : ∃ z, z = uF S_2 2 ((S_2.2.2 2) + 1) := ⟨_, rfl⟩
    replace hq := hq S_3 eS_3
    refine w_put (ws' := cw ad cI cL S_3) C hw uw_X0 tyX0 tyX0_ok nmX0 2 cO_X0 rfl 2 (by decide) fl_X0_18 rfl (by decide +kernel) (Nat.le_of_ble_eq_true rfl) dX0_add_38 (by rw [eS_3]; exact cFs_2) (fun H locs hw => ?_)
    refine lv_aload_n hx hb dX0_add_41 rfl (lv_at hl 0 rfl) ?_
    refine w_get C hw uw_X0 2 cO_X0 rfl 2 (by decide) fl_X0_18 rfl dX0_add_42 ?_
    refine lv_iconst (v := 1) hx hb dX0_add_45 (by decide) ?_
    refine lv_isub hx hb dX0_add_46 ?_
    exact w_iret C hw hq dX0_add_47
  · replace hq := hq.2 hc
    refine lv_bipush (v := (-3)) hx hb dX0_add_8 (by decide) ?_
    exact w_iret C hw hq dX0_add_10
set_option maxHeartbeats 4000000 in
set_option maxRecDepth 100000 in
theorem mX0_shareOf (l : Launch) (D : va_G) (ad : Nat → Nat) (cI cL : ClassId) (S : MS) (x1 : Int32) (Q : Int32 → MS → Prop) (hq : wX0_shareOf S x1 Q) : Mi l yX0_shareOf cX0_shareOf 2 (some .int) { frames := 0, cells := 0, slots := 0, locals := 0 } D (ctys cI cL) (cw ad cI cL) [.ref (ad 2), .int x1] S Q := by
  refine Mi.of (by decide +kernel) (Nat.le_of_ble_eq_true rfl) ?_
  intro p e s m args below meth c A ls C hw hl
  have hx := C.1
  have hb := C.2.1
  have hl : lv_has ls 2 [(0, .ref (ad 2)), (1, .int x1)] := hl
  have hw : WW D (ctys cI cL) (cw ad cI cL S) A s s.heap [] := hw
  unfold wX0_shareOf at hq
  refine lv_aload_n hx hb dX0_shareOf_0 rfl (lv_at hl 0 rfl) ?_
  refine w_get C hw uw_X0 2 cO_X0 rfl 0 (by decide) fl_X0_9 rfl dX0_shareOf_1 ?_
  refine lv_iload_n hx hb dX0_shareOf_4 rfl (lv_at hl 1 rfl) ?_
  obtain ⟨hin, hq⟩ := hq
  refine w_ild C hw 12 0 cI_6 rfl hin dX0_shareOf_5 ?_
  exact w_iret C hw hq dX0_shareOf_6
set_option maxHeartbeats 4000000 in
set_option maxRecDepth 100000 in
theorem mX0_struckBy (l : Launch) (D : va_G) (ad : Nat → Nat) (cI cL : ClassId) (S : MS) (x1 : Int32) (Q : Int32 → MS → Prop) (hq : wX0_struckBy S x1 Q) : Mi l yX0_struckBy cX0_struckBy 2 (some .int) { frames := 0, cells := 0, slots := 0, locals := 0 } D (ctys cI cL) (cw ad cI cL) [.ref (ad 2), .int x1] S Q := by
  refine Mi.of (by decide +kernel) (Nat.le_of_ble_eq_true rfl) ?_
  intro p e s m args below meth c A ls C hw hl
  have hx := C.1
  have hb := C.2.1
  have hl : lv_has ls 2 [(0, .ref (ad 2)), (1, .int x1)] := hl
  have hw : WW D (ctys cI cL) (cw ad cI cL S) A s s.heap [] := hw
  unfold wX0_struckBy at hq
  refine lv_aload_n hx hb dX0_struckBy_0 rfl (lv_at hl 0 rfl) ?_
  refine w_get C hw uw_X0 2 cO_X0 rfl 1 (by decide) fl_X0_15 rfl dX0_struckBy_1 ?_
  refine lv_iload_n hx hb dX0_struckBy_4 rfl (lv_at hl 1 rfl) ?_
  obtain ⟨hin, hq⟩ := hq
  refine w_ild C hw 13 0 cI_7 rfl hin dX0_struckBy_5 ?_
  exact w_iret C hw hq dX0_struckBy_6
set_option maxHeartbeats 4000000 in
set_option maxRecDepth 100000 in
theorem kJX0_striking_29 {p : Program} {l : Launch} {e : Env} {s : State} {m : MethodId} {args : Array Value} {below : List Frame} {meth : Method} {c : Code} {D : va_G} {ad : Nat → Nat} {cI cL : ClassId} {A : Nat → Prop} (C : Cx p s m args meth c yX0_striking.cls cX0_striking 4 (some .int)) (S : MS) (x1 : Int32) (x2 : Int32) (x3 : Int32) (Hd : MS → Int32 → Int32 → Prop) (K : MS → Int32 → Prop) (Q : Int32 → MS → Prop) (hq : JX0_striking_29 S x1 x2 x3 Hd K Q) (H : Heap) (locs : List Loc) (ls : Array Slot) (hw : WW D (ctys cI cL) (cw ad cI cL S) A s H locs) (hl : lv_has ls 4 [(0, .ref (ad 2)), (1, .int x1), (2, .int x2), (3, .int x3)]) (hH : ∀ (S : MS) (z2 : Int32) (z3 : Int32) (H : Heap) (locs : List Loc) (ls : Array Slot), Hd S z2 z3 → WW D (ctys cI cL) (cw ad cI cL S) A s H locs → lv_has ls 4 [(0, .ref (ad 2)), (1, .int x1), (2, .int z2), (3, .int z3)] → W p l e { frames := 0, cells := 0, slots := 0, locals := 0 } s m args below meth c H locs 0 0 (Zi D (ctys cI cL) (cw ad cI cL) A below args s Q) (F0 m 4 ls [])) (hK : ∀ (S : MS) (z2 : Int32) (H : Heap) (locs : List Loc) (ls : Array Slot), K S z2 → WW D (ctys cI cL) (cw ad cI cL S) A s H locs → lv_has ls 4 [(2, .int z2)] → W p l e { frames := 0, cells := 0, slots := 0, locals := 0 } s m args below meth c H locs 0 0 (Zi D (ctys cI cL) (cw ad cI cL) A below args s Q) (F0 m 35 ls [])) : W p l e { frames := 0, cells := 0, slots := 0, locals := 0 } s m args below meth c H locs 0 0 (Zi D (ctys cI cL) (cw ad cI cL) A below args s Q) (F0 m 29 ls []) := by
  have hx := C.1
  have hb := C.2.1
  unfold JX0_striking_29 at hq
  refine lv_iinc (v := x3 + 1) (lv' := [(3, .int (x3 + 1)), (0, .ref (ad 2)), (1, .int x1), (2, .int x2)]) hx hb dX0_striking_29 hl (k := 3) rfl rfl (by decide) rfl (fun ls hl => ?_)
  refine lv_goto (tgt := 4) hx hb dX0_striking_32 (by decide) ?_
  exact hH S x2 (x3 + 1) _ _ _ hq hw (lv_sub hl [1, 2, 3, 0] rfl)
set_option maxHeartbeats 4000000 in
set_option maxRecDepth 100000 in
theorem kLX0_striking_4 {p : Program} {l : Launch} {e : Env} {s : State} {m : MethodId} {args : Array Value} {below : List Frame} {meth : Method} {c : Code} {D : va_G} {ad : Nat → Nat} {cI cL : ClassId} {A : Nat → Prop} (C : Cx p s m args meth c yX0_striking.cls cX0_striking 4 (some .int)) (x1 : Int32) (K : MS → Int32 → Prop) (Q : Int32 → MS → Prop) (hK : ∀ (S : MS) (z2 : Int32) (H : Heap) (locs : List Loc) (ls : Array Slot), K S z2 → WW D (ctys cI cL) (cw ad cI cL S) A s H locs → lv_has ls 4 [(2, .int z2)] → W p l e { frames := 0, cells := 0, slots := 0, locals := 0 } s m args below meth c H locs 0 0 (Zi D (ctys cI cL) (cw ad cI cL) A below args s Q) (F0 m 35 ls [])) : ∀ (n : Nat) (S : MS) (x2 : Int32) (x3 : Int32) (_ : LX0_striking_4 x1 K Q n S x2 x3) (H : Heap) (locs : List Loc) (ls : Array Slot), WW D (ctys cI cL) (cw ad cI cL S) A s H locs → lv_has ls 4 [(0, .ref (ad 2)), (1, .int x1), (2, .int x2), (3, .int x3)] → W p l e { frames := 0, cells := 0, slots := 0, locals := 0 } s m args below meth c H locs 0 0 (Zi D (ctys cI cL) (cw ad cI cL) A below args s Q) (F0 m 4 ls []) := by
  have hx := C.1
  have hb := C.2.1
  intro n
  induction n with
  | zero => intro S x2 x3 hq; exact absurd hq (by rw [LX0_striking_4]; exact id)
  | succ n ih =>
    intro S x2 x3 hq H locs ls hw hl
    rw [LX0_striking_4] at hq
    refine lv_iload_n hx hb dX0_striking_4 rfl (lv_at hl 3 rfl) ?_
    refine lv_aload_n hx hb dX0_striking_5 rfl (lv_at hl 0 rfl) ?_
    refine w_get C hw uw_X0 2 cO_X0 rfl 2 (by decide) fl_X0_18 rfl dX0_striking_6 ?_
    refine lv_icmp_ge (tgt := 35) hx hb dX0_striking_9 (by decide) (fun hc => ?_) (fun hc => ?_)
    · replace hq := hq.1 hc
      exact hK S x2 _ _ _ hq hw (lv_sub hl [2] rfl)
    · replace hq := hq.2 hc
      refine lv_aload_n hx hb dX0_striking_12 rfl (lv_at hl 0 rfl) ?_
      refine w_get C hw uw_X0 2 cO_X0 rfl 1 (by decide) fl_X0_15 rfl dX0_striking_13 ?_
      refine lv_iload_n hx hb dX0_striking_16 rfl (lv_at hl 3 rfl) ?_
      obtain ⟨hin, hq⟩ := hq
      refine w_ild C hw 13 0 cI_7 rfl hin dX0_striking_17 ?_
      refine lv_iload_n hx hb dX0_striking_18 rfl (lv_at hl 1 rfl) ?_
      refine lv_iand hx hb dX0_striking_19 ?_
      refine lv_if_eq (tgt := 29) hx hb dX0_striking_20 (by decide) (fun hc => ?_) (fun hc => ?_)
      · replace hq := hq.1 hc
        exact kJX0_striking_29 C S x1 x2 x3 _ K Q hq _ _ _ hw (lv_sub hl [0, 1, 2, 3] rfl) (fun S a2 a3 H locs ls hq hw hl => ih S a2 a3 hq H locs ls hw hl) hK
      · replace hq := hq.2 hc
        refine lv_iload_n hx hb dX0_striking_23 rfl (lv_at hl 2 rfl) ?_
        refine lv_iconst (v := 1) hx hb dX0_striking_24 (by decide) ?_
        refine lv_iload_n hx hb dX0_striking_25 rfl (lv_at hl 3 rfl) ?_
        refine lv_ishl hx hb dX0_striking_26 ?_
        refine lv_ior hx hb dX0_striking_27 ?_
        refine lv_topi (fun v_1 ev_1 => ?_)
        replace hq := hq v_1 ev_1
        refine lv_istore_n (lv' := [(2, .int v_1), (0, .ref (ad 2)), (1, .int x1), (3, .int x3)]) hx hb dX0_striking_28 rfl hl (by decide) rfl (fun ls hl => ?_)
        exact kJX0_striking_29 C S x1 v_1 x3 _ K Q hq _ _ _ hw (lv_sub hl [1, 2, 0, 3] rfl) (fun S a2 a3 H locs ls hq hw hl => ih S a2 a3 hq H locs ls hw hl) hK
set_option maxHeartbeats 4000000 in
set_option maxRecDepth 100000 in
theorem mX0_striking (l : Launch) (D : va_G) (ad : Nat → Nat) (cI cL : ClassId) (S : MS) (x1 : Int32) (Q : Int32 → MS → Prop) (hq : wX0_striking S x1 Q) : Mi l yX0_striking cX0_striking 4 (some .int) { frames := 0, cells := 0, slots := 0, locals := 0 } D (ctys cI cL) (cw ad cI cL) [.ref (ad 2), .int x1] S Q := by
  refine Mi.of (by decide +kernel) (Nat.le_of_ble_eq_true rfl) ?_
  intro p e s m args below meth c A ls C hw hl
  have hx := C.1
  have hb := C.2.1
  have hl : lv_has ls 4 [(0, .ref (ad 2)), (1, .int x1)] := hl
  have hw : WW D (ctys cI cL) (cw ad cI cL S) A s s.heap [] := hw
  unfold wX0_striking at hq
  refine lv_iconst (v := 0) hx hb dX0_striking_0 (by decide) ?_
  refine lv_istore_n (lv' := [(2, .int 0), (0, .ref (ad 2)), (1, .int x1)]) hx hb dX0_striking_1 rfl hl (by decide) rfl (fun ls hl => ?_)
  refine lv_iconst (v := 0) hx hb dX0_striking_2 (by decide) ?_
  refine lv_istore_n (lv' := [(3, .int 0), (2, .int 0), (0, .ref (ad 2)), (1, .int x1)]) hx hb dX0_striking_3 rfl hl (by decide) rfl (fun ls hl => ?_)
  obtain ⟨n0, hq⟩ := hq
  refine kLX0_striking_4 C x1 _ Q ?_ n0 S 0 0 hq _ _ _ hw (lv_sub hl [2, 3, 1, 0] rfl)
  clear hw hl hq
  intro S_1 y_2 H locs ls hq hw hl
  refine lv_iload_n hx hb dX0_striking_35 rfl (lv_at hl 0 rfl) ?_
  exact w_iret C hw hq dX0_striking_36
set_option maxHeartbeats 4000000 in
set_option maxRecDepth 100000 in
theorem mX4_partsBelow (l : Launch) (D : va_G) (ad : Nat → Nat) (cI cL : ClassId) (S : MS) (x1 : Int32) (Q : Int32 → MS → Prop) (hq : wX4_partsBelow S x1 Q) : Mi l yX4_partsBelow cX4_partsBelow 2 (some .int) { frames := 0, cells := 0, slots := 0, locals := 0 } D (ctys cI cL) (cw ad cI cL) [.ref (ad 3), .int x1] S Q := by
  refine Mi.of (by decide +kernel) (Nat.le_of_ble_eq_true rfl) ?_
  intro p e s m args below meth c A ls C hw hl
  have hx := C.1
  have hb := C.2.1
  have hl : lv_has ls 2 [(0, .ref (ad 3)), (1, .int x1)] := hl
  have hw : WW D (ctys cI cL) (cw ad cI cL S) A s s.heap [] := hw
  unfold wX4_partsBelow at hq
  refine lv_aload_n hx hb dX4_partsBelow_0 rfl (lv_at hl 0 rfl) ?_
  refine w_get C hw uw_X4 3 cO_X4 rfl 3 (by decide) fl_X4_21 rfl dX4_partsBelow_1 ?_
  refine lv_iload_n hx hb dX4_partsBelow_4 rfl (lv_at hl 1 rfl) ?_
  obtain ⟨hin, hq⟩ := hq
  refine w_ild C hw 17 0 cI_11 rfl hin dX4_partsBelow_5 ?_
  exact w_iret C hw hq dX4_partsBelow_6
set_option maxHeartbeats 4000000 in
set_option maxRecDepth 100000 in
theorem mX1_groupsOf (l : Launch) (D : va_G) (ad : Nat → Nat) (cI cL : ClassId) (S : MS) (x1 : Int32) (Q : Int32 → MS → Prop) (hq : wX1_groupsOf S x1 Q) : Mi l yX1_groupsOf cX1_groupsOf 2 (some .int) { frames := 1, cells := 0, slots := 0, locals := 23 } D (ctys cI cL) (cw ad cI cL) [.ref (ad 4), .int x1] S Q := by
  refine Mi.of (by decide +kernel) (Nat.le_of_ble_eq_true rfl) ?_
  intro p e s m args below meth c A ls C hw hl
  have hx := C.1
  have hb := C.2.1
  have hl : lv_has ls 2 [(0, .ref (ad 4)), (1, .int x1)] := hl
  have hw : WW D (ctys cI cL) (cw ad cI cL S) A s s.heap [] := hw
  unfold wX1_groupsOf at hq
  refine lv_aload_n hx hb dX1_groupsOf_0 rfl (lv_at hl 0 rfl) ?_
  refine w_get C hw uw_X1 4 cO_X1 rfl 1 (by decide) fl_X1_36 rfl dX1_groupsOf_1 ?_
  refine lv_aload_n hx hb dX1_groupsOf_4 rfl (lv_at hl 0 rfl) ?_
  refine w_get C hw uw_X1 4 cO_X1 rfl 2 (by decide) fl_X1_40 rfl dX1_groupsOf_5 ?_
  refine lv_iload_n hx hb dX1_groupsOf_8 rfl (lv_at hl 1 rfl) ?_
  refine w_calli hw (w_runV (rest := [.ref (ad 2)]) C hw (mX4_partsBelow l D ad cI cL S x1 _ hq _) kc_X4_partsBelow ml_X1_44 3 cO_X4 rfl rfl ⟨rfl, rfl, Nat.le_of_ble_eq_true rfl, Nat.le_of_ble_eq_true rfl⟩ rfl rfl (Nat.le_of_ble_eq_true rfl) hl.1 dX1_groupsOf_9) ?_
  clear hw hq
  intro r_2 S_1 H locs hq hw
  refine w_calli hw (w_runV (rest := []) C hw (mX0_striking l D ad cI cL S_1 r_2 _ hq _) kc_X0_striking ml_X1_50 2 cO_X0 rfl rfl ⟨rfl, rfl, Nat.le_of_ble_eq_true rfl, Nat.le_of_ble_eq_true rfl⟩ rfl rfl (Nat.le_of_ble_eq_true rfl) hl.1 dX1_groupsOf_12) ?_
  clear hw hq
  intro r_4 S_3 H locs hq hw
  exact w_iret C hw hq dX1_groupsOf_15
set_option maxHeartbeats 4000000 in
set_option maxRecDepth 100000 in
theorem mJ6_bitCount_0f7a4 (l : Launch) (D : va_G) (ad : Nat → Nat) (cI cL : ClassId) (S : MS) (x0 : Int32) (Q : Int32 → MS → Prop) (hq : wJ6_bitCount_0f7a4 S x0 Q) : Mi l yJ6_bitCount_0f7a4 cJ6_bitCount_0f7a4 1 (some .int) { frames := 0, cells := 0, slots := 0, locals := 0 } D (ctys cI cL) (cw ad cI cL) [.int x0] S Q := by
  refine Mi.of (by decide +kernel) (Nat.le_of_ble_eq_true rfl) ?_
  intro p e s m args below meth c A ls C hw hl
  have hx := C.1
  have hb := C.2.1
  have hl : lv_has ls 1 [(0, .int x0)] := hl
  have hw : WW D (ctys cI cL) (cw ad cI cL S) A s s.heap [] := hw
  unfold wJ6_bitCount_0f7a4 at hq
  refine lv_iload_n hx hb dJ6_bitCount_0f7a4_0 rfl (lv_at hl 0 rfl) ?_
  refine lv_iload_n hx hb dJ6_bitCount_0f7a4_1 rfl (lv_at hl 0 rfl) ?_
  refine lv_iconst (v := 1) hx hb dJ6_bitCount_0f7a4_2 (by decide) ?_
  refine lv_iushr (v := (jiushr x0 1)) hx hb dJ6_bitCount_0f7a4_3 rfl ?_
  refine lv_ldcw hx hb C.2.2.2.2.1 (C.w kk_J6_265 rfl) dJ6_bitCount_0f7a4_4 ?_
  refine lv_iand hx hb dJ6_bitCount_0f7a4_7 ?_
  refine lv_isub hx hb dJ6_bitCount_0f7a4_8 ?_
  refine lv_topi (fun v_1 ev_1 => ?_)
  replace hq := hq v_1 ev_1
  refine lv_istore_n (lv' := [(0, .int v_1)]) hx hb dJ6_bitCount_0f7a4_9 rfl hl (by decide) rfl (fun ls hl => ?_)
  refine lv_iload_n hx hb dJ6_bitCount_0f7a4_10 rfl (lv_at hl 0 rfl) ?_
  refine lv_ldcw hx hb C.2.2.2.2.1 (C.w kk_J6_266 rfl) dJ6_bitCount_0f7a4_11 ?_
  refine lv_iand hx hb dJ6_bitCount_0f7a4_14 ?_
  refine lv_iload_n hx hb dJ6_bitCount_0f7a4_15 rfl (lv_at hl 0 rfl) ?_
  refine lv_iconst (v := 2) hx hb dJ6_bitCount_0f7a4_16 (by decide) ?_
  refine lv_iushr (v := (jiushr v_1 2)) hx hb dJ6_bitCount_0f7a4_17 rfl ?_
  refine lv_ldcw hx hb C.2.2.2.2.1 (C.w kk_J6_266 rfl) dJ6_bitCount_0f7a4_18 ?_
  refine lv_iand hx hb dJ6_bitCount_0f7a4_21 ?_
  refine lv_iadd hx hb dJ6_bitCount_0f7a4_22 ?_
  refine lv_topi (fun v_2 ev_2 => ?_)
  replace hq := hq v_2 ev_2
  refine lv_istore_n (lv' := [(0, .int v_2)]) hx hb dJ6_bitCount_0f7a4_23 rfl hl (by decide) rfl (fun ls hl => ?_)
  refine lv_iload_n hx hb dJ6_bitCount_0f7a4_24 rfl (lv_at hl 0 rfl) ?_
  refine lv_iload_n hx hb dJ6_bitCount_0f7a4_25 rfl (lv_at hl 0 rfl) ?_
  refine lv_iconst (v := 4) hx hb dJ6_bitCount_0f7a4_26 (by decide) ?_
  refine lv_iushr (v := (jiushr v_2 4)) hx hb dJ6_bitCount_0f7a4_27 rfl ?_
  refine lv_iadd hx hb dJ6_bitCount_0f7a4_28 ?_
  refine lv_ldcw hx hb C.2.2.2.2.1 (C.w kk_J6_267 rfl) dJ6_bitCount_0f7a4_29 ?_
  refine lv_iand hx hb dJ6_bitCount_0f7a4_32 ?_
  refine lv_topi (fun v_3 ev_3 => ?_)
  replace hq := hq v_3 ev_3
  refine lv_istore_n (lv' := [(0, .int v_3)]) hx hb dJ6_bitCount_0f7a4_33 rfl hl (by decide) rfl (fun ls hl => ?_)
  refine lv_iload_n hx hb dJ6_bitCount_0f7a4_34 rfl (lv_at hl 0 rfl) ?_
  refine lv_iload_n hx hb dJ6_bitCount_0f7a4_35 rfl (lv_at hl 0 rfl) ?_
  refine lv_bipush (v := 8) hx hb dJ6_bitCount_0f7a4_36 (by decide) ?_
  refine lv_iushr (v := (jiushr v_3 8)) hx hb dJ6_bitCount_0f7a4_38 rfl ?_
  refine lv_iadd hx hb dJ6_bitCount_0f7a4_39 ?_
  refine lv_istore_n (lv' := [(0, .int (v_3 + (jiushr v_3 8)))]) hx hb dJ6_bitCount_0f7a4_40 rfl hl (by decide) rfl (fun ls hl => ?_)
  refine lv_iload_n hx hb dJ6_bitCount_0f7a4_41 rfl (lv_at hl 0 rfl) ?_
  refine lv_iload_n hx hb dJ6_bitCount_0f7a4_42 rfl (lv_at hl 0 rfl) ?_
  refine lv_bipush (v := 16) hx hb dJ6_bitCount_0f7a4_43 (by decide) ?_
  refine lv_iushr (v := (jiushr (v_3 + (jiushr v_3 8)) 16)) hx hb dJ6_bitCount_0f7a4_45 rfl ?_
  refine lv_iadd hx hb dJ6_bitCount_0f7a4_46 ?_
  refine lv_topi (fun v_4 ev_4 => ?_)
  replace hq := hq v_4 ev_4
  refine lv_istore_n (lv' := [(0, .int v_4)]) hx hb dJ6_bitCount_0f7a4_47 rfl hl (by decide) rfl (fun ls hl => ?_)
  refine lv_iload_n hx hb dJ6_bitCount_0f7a4_48 rfl (lv_at hl 0 rfl) ?_
  refine lv_bipush (v := 63) hx hb dJ6_bitCount_0f7a4_49 (by decide) ?_
  refine lv_iand hx hb dJ6_bitCount_0f7a4_51 ?_
  exact w_iret C hw hq dJ6_bitCount_0f7a4_52
set_option maxHeartbeats 4000000 in
set_option maxRecDepth 100000 in
theorem mX4_sizeBelow (l : Launch) (D : va_G) (ad : Nat → Nat) (cI cL : ClassId) (S : MS) (x1 : Int32) (Q : Int32 → MS → Prop) (hq : wX4_sizeBelow S x1 Q) : Mi l yX4_sizeBelow cX4_sizeBelow 2 (some .int) { frames := 1, cells := 0, slots := 0, locals := 20 } D (ctys cI cL) (cw ad cI cL) [.ref (ad 3), .int x1] S Q := by
  refine Mi.of (by decide +kernel) (Nat.le_of_ble_eq_true rfl) ?_
  intro p e s m args below meth c A ls C hw hl
  have hx := C.1
  have hb := C.2.1
  have hl : lv_has ls 2 [(0, .ref (ad 3)), (1, .int x1)] := hl
  have hw : WW D (ctys cI cL) (cw ad cI cL S) A s s.heap [] := hw
  unfold wX4_sizeBelow at hq
  refine lv_aload_n hx hb dX4_sizeBelow_0 rfl (lv_at hl 0 rfl) ?_
  refine w_get C hw uw_X4 3 cO_X4 rfl 3 (by decide) fl_X4_21 rfl dX4_sizeBelow_1 ?_
  refine lv_iload_n hx hb dX4_sizeBelow_4 rfl (lv_at hl 1 rfl) ?_
  obtain ⟨hin, hq⟩ := hq
  refine w_ild C hw 17 0 cI_11 rfl hin dX4_sizeBelow_5 ?_
  refine w_calli hw (w_runS (rest := []) C hw (mJ6_bitCount_0f7a4 l D ad cI cL S (S.1 11 x1.toNatClampNeg) _ hq _) kc_J6_bitCount_0f7a4 ml_X4_32 ⟨rfl, rfl, Nat.le_of_ble_eq_true rfl, Nat.le_of_ble_eq_true rfl⟩ rfl rfl (Nat.le_of_ble_eq_true rfl) hl.1 dX4_sizeBelow_6) ?_
  clear hw hq
  intro r_2 S_1 H locs hq hw
  exact w_iret C hw hq dX4_sizeBelow_9
set_option maxHeartbeats 4000000 in
set_option maxRecDepth 100000 in
theorem mX1_eventsOf (l : Launch) (D : va_G) (ad : Nat → Nat) (cI cL : ClassId) (S : MS) (x1 : Int32) (Q : Int32 → MS → Prop) (hq : wX1_eventsOf S x1 Q) : Mi l yX1_eventsOf cX1_eventsOf 2 (some .int) { frames := 2, cells := 0, slots := 0, locals := 44 } D (ctys cI cL) (cw ad cI cL) [.ref (ad 4), .int x1] S Q := by
  refine Mi.of (by decide +kernel) (Nat.le_of_ble_eq_true rfl) ?_
  intro p e s m args below meth c A ls C hw hl
  have hx := C.1
  have hb := C.2.1
  have hl : lv_has ls 2 [(0, .ref (ad 4)), (1, .int x1)] := hl
  have hw : WW D (ctys cI cL) (cw ad cI cL S) A s s.heap [] := hw
  unfold wX1_eventsOf at hq
  refine lv_aload_n hx hb dX1_eventsOf_0 rfl (lv_at hl 0 rfl) ?_
  refine w_get C hw uw_X1 4 cO_X1 rfl 2 (by decide) fl_X1_40 rfl dX1_eventsOf_1 ?_
  refine lv_iload_n hx hb dX1_eventsOf_4 rfl (lv_at hl 1 rfl) ?_
  refine w_calli hw (w_runV (rest := []) C hw (mX4_sizeBelow l D ad cI cL S x1 _ hq _) kc_X4_sizeBelow ml_X1_55 3 cO_X4 rfl rfl ⟨rfl, rfl, Nat.le_of_ble_eq_true rfl, Nat.le_of_ble_eq_true rfl⟩ rfl rfl (Nat.le_of_ble_eq_true rfl) hl.1 dX1_eventsOf_5) ?_
  clear hw hq
  intro r_2 S_1 H locs hq hw
  refine lv_aload_n hx hb dX1_eventsOf_8 rfl (lv_at hl 0 rfl) ?_
  refine lv_iload_n hx hb dX1_eventsOf_9 rfl (lv_at hl 1 rfl) ?_
  refine w_calli hw (w_runV (rest := [.int r_2]) C hw (mX1_groupsOf l D ad cI cL S_1 x1 _ hq _) kc_X1_groupsOf ml_X1_58 4 cO_X1 rfl rfl ⟨rfl, rfl, Nat.le_of_ble_eq_true rfl, Nat.le_of_ble_eq_true rfl⟩ rfl rfl (Nat.le_of_ble_eq_true rfl) hl.1 dX1_eventsOf_10) ?_
  clear hw hq
  intro r_4 S_3 H locs hq hw
  refine w_calli hw (w_runS (rest := [.int r_2]) C hw (mJ6_bitCount_0f7a4 l D ad cI cL S_3 r_4 _ hq _) kc_J6_bitCount_0f7a4 ml_X1_61 ⟨rfl, rfl, Nat.le_of_ble_eq_true rfl, Nat.le_of_ble_eq_true rfl⟩ rfl rfl (Nat.le_of_ble_eq_true rfl) hl.1 dX1_eventsOf_13) ?_
  clear hw hq
  intro r_6 S_5 H locs hq hw
  refine lv_iadd hx hb dX1_eventsOf_16 ?_
  exact w_iret C hw hq dX1_eventsOf_17
set_option maxHeartbeats 4000000 in
set_option maxRecDepth 100000 in
theorem mX1_hasTooManyEvents (l : Launch) (D : va_G) (ad : Nat → Nat) (cI cL : ClassId) (S : MS) (x1 : Int32) (Q : Int32 → MS → Prop) (hq : wX1_hasTooManyEvents S x1 Q) : Mi l yX1_hasTooManyEvents cX1_hasTooManyEvents 2 (some .boolean) { frames := 3, cells := 0, slots := 0, locals := 65 } D (ctys cI cL) (cw ad cI cL) [.ref (ad 4), .int x1] S Q := by
  refine Mi.of (by decide +kernel) (Nat.le_of_ble_eq_true rfl) ?_
  intro p e s m args below meth c A ls C hw hl
  have hx := C.1
  have hb := C.2.1
  have hl : lv_has ls 2 [(0, .ref (ad 4)), (1, .int x1)] := hl
  have hw : WW D (ctys cI cL) (cw ad cI cL S) A s s.heap [] := hw
  unfold wX1_hasTooManyEvents at hq
  refine lv_aload_n hx hb dX1_hasTooManyEvents_0 rfl (lv_at hl 0 rfl) ?_
  refine lv_iload_n hx hb dX1_hasTooManyEvents_1 rfl (lv_at hl 1 rfl) ?_
  refine w_calli hw (w_runV (rest := []) C hw (mX1_eventsOf l D ad cI cL S x1 _ hq _) kc_X1_eventsOf ml_X1_66 4 cO_X1 rfl rfl ⟨rfl, rfl, Nat.le_of_ble_eq_true rfl, Nat.le_of_ble_eq_true rfl⟩ rfl rfl (Nat.le_of_ble_eq_true rfl) hl.1 dX1_hasTooManyEvents_2) ?_
  clear hw hq
  intro r_2 S_1 H locs hq hw
  refine lv_bipush (v := 8) hx hb dX1_hasTooManyEvents_5 (by decide) ?_
  refine lv_icmp_le (tgt := 14) hx hb dX1_hasTooManyEvents_7 (by decide) (fun hc => ?_) (fun hc => ?_)
  · replace hq := hq.1 hc
    refine lv_iconst (v := 0) hx hb dX1_hasTooManyEvents_14 (by decide) ?_
    exact w_zret C hw rfl hq dX1_hasTooManyEvents_15
  · replace hq := hq.2 hc
    refine lv_iconst (v := 1) hx hb dX1_hasTooManyEvents_10 (by decide) ?_
    refine lv_goto (tgt := 15) hx hb dX1_hasTooManyEvents_11 (by decide) ?_
    exact w_zret C hw rfl hq dX1_hasTooManyEvents_15
set_option maxHeartbeats 4000000 in
set_option maxRecDepth 100000 in
theorem mX5_hasBit (l : Launch) (D : va_G) (ad : Nat → Nat) (cI cL : ClassId) (S : MS) (x0 : Int32) (x1 : Int32) (Q : Int32 → MS → Prop) (hq : wX5_hasBit S x0 x1 Q) : Mi l yX5_hasBit cX5_hasBit 2 (some .boolean) { frames := 0, cells := 0, slots := 0, locals := 0 } D (ctys cI cL) (cw ad cI cL) [.int x0, .int x1] S Q := by
  refine Mi.of (by decide +kernel) (Nat.le_of_ble_eq_true rfl) ?_
  intro p e s m args below meth c A ls C hw hl
  have hx := C.1
  have hb := C.2.1
  have hl : lv_has ls 2 [(0, .int x0), (1, .int x1)] := hl
  have hw : WW D (ctys cI cL) (cw ad cI cL S) A s s.heap [] := hw
  unfold wX5_hasBit at hq
  refine lv_iload_n hx hb dX5_hasBit_0 rfl (lv_at hl 0 rfl) ?_
  refine lv_iload_n hx hb dX5_hasBit_1 rfl (lv_at hl 1 rfl) ?_
  refine lv_iushr (v := (jiushr x0 x1)) hx hb dX5_hasBit_2 rfl ?_
  refine lv_iconst (v := 1) hx hb dX5_hasBit_3 (by decide) ?_
  refine lv_iand hx hb dX5_hasBit_4 ?_
  refine lv_if_eq (tgt := 12) hx hb dX5_hasBit_5 (by decide) (fun hc => ?_) (fun hc => ?_)
  · replace hq := hq.1 hc
    refine lv_iconst (v := 0) hx hb dX5_hasBit_12 (by decide) ?_
    exact w_zret C hw rfl hq dX5_hasBit_13
  · replace hq := hq.2 hc
    refine lv_iconst (v := 1) hx hb dX5_hasBit_8 (by decide) ?_
    refine lv_goto (tgt := 13) hx hb dX5_hasBit_9 (by decide) ?_
    exact w_zret C hw rfl hq dX5_hasBit_13
set_option maxHeartbeats 4000000 in
set_option maxRecDepth 100000 in
theorem kJX1_takeMembers_57 {p : Program} {l : Launch} {e : Env} {s : State} {m : MethodId} {args : Array Value} {below : List Frame} {meth : Method} {c : Code} {D : va_G} {ad : Nat → Nat} {cI cL : ClassId} {A : Nat → Prop} (C : Cx p s m args meth c yX1_takeMembers.cls cX1_takeMembers 3 none) (S : MS) (x1 : Int32) (x2 : Int32) (Hd : MS → Int32 → Prop) (K : MS → Prop) (Q : MS → Prop) (hq : JX1_takeMembers_57 S x1 x2 Hd K Q) (H : Heap) (locs : List Loc) (ls : Array Slot) (hw : WW D (ctys cI cL) (cw ad cI cL S) A s H locs) (hl : lv_has ls 3 [(0, .ref (ad 4)), (1, .int x1), (2, .int x2)]) (hH : ∀ (S : MS) (z2 : Int32) (H : Heap) (locs : List Loc) (ls : Array Slot), Hd S z2 → WW D (ctys cI cL) (cw ad cI cL S) A s H locs → lv_has ls 3 [(0, .ref (ad 4)), (1, .int x1), (2, .int z2)] → W p l e { frames := 1, cells := 0, slots := 0, locals := 21 } s m args below meth c H locs 0 0 (Zv D (ctys cI cL) (cw ad cI cL) A below args s Q) (F0 m 7 ls [])) (hK : ∀ (S : MS) (H : Heap) (locs : List Loc) (ls : Array Slot), K S  → WW D (ctys cI cL) (cw ad cI cL S) A s H locs → lv_has ls 3 [(0, .ref (ad 4))] → W p l e { frames := 1, cells := 0, slots := 0, locals := 21 } s m args below meth c H locs 0 0 (Zv D (ctys cI cL) (cw ad cI cL) A below args s Q) (F0 m 63 ls [])) : W p l e { frames := 1, cells := 0, slots := 0, locals := 21 } s m args below meth c H locs 0 0 (Zv D (ctys cI cL) (cw ad cI cL) A below args s Q) (F0 m 57 ls []) := by
  have hx := C.1
  have hb := C.2.1
  unfold JX1_takeMembers_57 at hq
  refine lv_iinc (v := x2 + 1) (lv' := [(2, .int (x2 + 1)), (0, .ref (ad 4)), (1, .int x1)]) hx hb dX1_takeMembers_57 hl (k := 2) rfl rfl (by decide) rfl (fun ls hl => ?_)
  refine lv_goto (tgt := 7) hx hb dX1_takeMembers_60 (by decide) ?_
  exact hH S (x2 + 1) _ _ _ hq hw (lv_sub hl [1, 2, 0] rfl)
set_option maxHeartbeats 4000000 in
set_option maxRecDepth 100000 in
theorem kLX1_takeMembers_7 {p : Program} {l : Launch} {e : Env} {s : State} {m : MethodId} {args : Array Value} {below : List Frame} {meth : Method} {c : Code} {D : va_G} {ad : Nat → Nat} {cI cL : ClassId} {A : Nat → Prop} (C : Cx p s m args meth c yX1_takeMembers.cls cX1_takeMembers 3 none) (x1 : Int32) (K : MS → Prop) (Q : MS → Prop) (hK : ∀ (S : MS) (H : Heap) (locs : List Loc) (ls : Array Slot), K S  → WW D (ctys cI cL) (cw ad cI cL S) A s H locs → lv_has ls 3 [(0, .ref (ad 4))] → W p l e { frames := 1, cells := 0, slots := 0, locals := 21 } s m args below meth c H locs 0 0 (Zv D (ctys cI cL) (cw ad cI cL) A below args s Q) (F0 m 63 ls [])) : ∀ (n : Nat) (S : MS) (x2 : Int32) (_ : LX1_takeMembers_7 x1 K Q n S x2) (H : Heap) (locs : List Loc) (ls : Array Slot), WW D (ctys cI cL) (cw ad cI cL S) A s H locs → lv_has ls 3 [(0, .ref (ad 4)), (1, .int x1), (2, .int x2)] → W p l e { frames := 1, cells := 0, slots := 0, locals := 21 } s m args below meth c H locs 0 0 (Zv D (ctys cI cL) (cw ad cI cL) A below args s Q) (F0 m 7 ls []) := by
  have hx := C.1
  have hb := C.2.1
  intro n
  induction n with
  | zero => intro S x2 hq; exact absurd hq (by rw [LX1_takeMembers_7]; exact id)
  | succ n ih =>
    intro S x2 hq H locs ls hw hl
    rw [LX1_takeMembers_7] at hq
    refine lv_iload_n hx hb dX1_takeMembers_7 rfl (lv_at hl 2 rfl) ?_
    refine lv_bipush (v := 12) hx hb dX1_takeMembers_8 (by decide) ?_
    refine lv_icmp_ge (tgt := 63) hx hb dX1_takeMembers_10 (by decide) (fun hc => ?_) (fun hc => ?_)
    · replace hq := hq.1 hc
      exact hK S  _ _ _ hq hw (lv_sub hl [0] rfl)
    · replace hq := hq.2 hc
      refine lv_aload_n hx hb dX1_takeMembers_13 rfl (lv_at hl 0 rfl) ?_
      refine w_get C hw uw_X1 4 cO_X1 rfl 7 (by decide) fl_X1_25 rfl dX1_takeMembers_14 ?_
      refine lv_bipush (v := 8) hx hb dX1_takeMembers_17 (by decide) ?_
      refine lv_icmp_ge (tgt := 63) hx hb dX1_takeMembers_19 (by decide) (fun hc => ?_) (fun hc => ?_)
      · replace hq := hq.1 hc
        exact hK S  _ _ _ hq hw (lv_sub hl [0] rfl)
      · replace hq := hq.2 hc
        refine lv_aload_n hx hb dX1_takeMembers_22 rfl (lv_at hl 0 rfl) ?_
        refine w_get C hw uw_X1 4 cO_X1 rfl 2 (by decide) fl_X1_40 rfl dX1_takeMembers_23 ?_
        refine lv_iload_n hx hb dX1_takeMembers_26 rfl (lv_at hl 1 rfl) ?_
        refine w_calli hw (w_runV (rest := []) C hw (mX4_partsBelow l D ad cI cL S x1 _ hq _) kc_X4_partsBelow ml_X1_44 3 cO_X4 rfl rfl ⟨rfl, rfl, Nat.le_of_ble_eq_true rfl, Nat.le_of_ble_eq_true rfl⟩ rfl rfl (Nat.le_of_ble_eq_true rfl) hl.1 dX1_takeMembers_27) ?_
        clear hw hq
        intro r_2 S_1 H locs hq hw
        refine lv_iload_n hx hb dX1_takeMembers_30 rfl (lv_at hl 2 rfl) ?_
        refine w_calli hw (w_runN (rest := []) C hw (mX5_hasBit l D ad cI cL S_1 r_2 x2 _ hq _) kc_X5_hasBit ml_X1_118 ⟨rfl, rfl, Nat.le_of_ble_eq_true rfl, Nat.le_of_ble_eq_true rfl⟩ rfl rfl (Nat.le_of_ble_eq_true rfl) hl.1 dX1_takeMembers_31) ?_
        clear hw hq
        intro r_4 S_3 H locs hq hw
        refine lv_if_eq (tgt := 57) hx hb dX1_takeMembers_34 (by decide) (fun hc => ?_) (fun hc => ?_)
        · replace hq := hq.1 hc
          exact kJX1_takeMembers_57 C S_3 x1 x2 _ K Q hq _ _ _ hw (lv_sub hl [0, 1, 2] rfl) (fun S a2 H locs ls hq hw hl => ih S a2 hq H locs ls hw hl) hK
        · replace hq := hq.2 hc
          refine lv_aload_n hx hb dX1_takeMembers_37 rfl (lv_at hl 0 rfl) ?_
          refine w_get C hw uw_X1 4 cO_X1 rfl 5 (by decide) fl_X1_18 rfl dX1_takeMembers_38 ?_
          refine lv_aload_n hx hb dX1_takeMembers_41 rfl (lv_at hl 0 rfl) ?_
          refine w_get C hw uw_X1 4 cO_X1 rfl 7 (by decide) fl_X1_25 rfl dX1_takeMembers_42 ?_
          refine lv_iload_n hx hb dX1_takeMembers_45 rfl (lv_at hl 2 rfl) ?_
          obtain ⟨hin, hq⟩ := hq
          obtain ⟨S_5, eS_5⟩ : ∃ z, z = uI S_3 12 (S_3.2.2 4).toNatClampNeg x2 := ⟨_, rfl⟩
          replace hq := hq S_5 eS_5
          refine w_ist (ws' := cw ad cI cL S_5) C hw 18 0 cI_12 rfl hin dX1_takeMembers_46 (by rw [eS_5]; exact cIs_12) (fun H locs hw => ?_)
          refine lv_aload_n hx hb dX1_takeMembers_47 rfl (lv_at hl 0 rfl) ?_
          refine lv_dup hx hb dX1_takeMembers_48 rfl ?_
          refine w_get C hw uw_X1 4 cO_X1 rfl 7 (by decide) fl_X1_25 rfl dX1_takeMembers_49 ?_
          refine lv_iconst (v := 1) hx hb dX1_takeMembers_52 (by decide) ?_
          refine lv_iadd hx hb dX1_takeMembers_53 ?_
          obtain ⟨S_6, eS_6⟩ : ∃ z, z = uF S_5 4 ((S_5.2.2 4) + 1) := ⟨_, rfl⟩
          replace hq := hq S_6 eS_6
          refine w_put (ws' := cw ad cI cL S_6) C hw uw_X1 tyX1 tyX1_ok nmX1 4 cO_X1 rfl 7 (by decide) fl_X1_25 rfl (by decide +kernel) (Nat.le_of_ble_eq_true rfl) dX1_takeMembers_54 (by rw [eS_6]; exact cFs_4) (fun H locs hw => ?_)
          exact kJX1_takeMembers_57 C S_6 x1 x2 _ K Q hq _ _ _ hw (lv_sub hl [0, 1, 2] rfl) (fun S a2 H locs ls hq hw hl => ih S a2 hq H locs ls hw hl) hK
set_option maxHeartbeats 4000000 in
set_option maxRecDepth 100000 in
theorem mX1_takeMembers (l : Launch) (D : va_G) (ad : Nat → Nat) (cI cL : ClassId) (S : MS) (x1 : Int32) (Q : MS → Prop) (hq : wX1_takeMembers S x1 Q) : Mv l yX1_takeMembers cX1_takeMembers 3 none { frames := 1, cells := 0, slots := 0, locals := 21 } D (ctys cI cL) (cw ad cI cL) [.ref (ad 4), .int x1] S Q := by
  refine Mv.of (by decide +kernel) (Nat.le_of_ble_eq_true rfl) ?_
  intro p e s m args below meth c A ls C hw hl
  have hx := C.1
  have hb := C.2.1
  have hl : lv_has ls 3 [(0, .ref (ad 4)), (1, .int x1)] := hl
  have hw : WW D (ctys cI cL) (cw ad cI cL S) A s s.heap [] := hw
  unfold wX1_takeMembers at hq
  refine lv_aload_n hx hb dX1_takeMembers_0 rfl (lv_at hl 0 rfl) ?_
  refine lv_iconst (v := 0) hx hb dX1_takeMembers_1 (by decide) ?_
  obtain ⟨S_1, eS_1⟩ : ∃ z, z = uF S 4 0 := ⟨_, rfl⟩
  replace hq := hq S_1 eS_1
  refine w_put (ws' := cw ad cI cL S_1) C hw uw_X1 tyX1 tyX1_ok nmX1 4 cO_X1 rfl 7 (by decide) fl_X1_25 rfl (by decide +kernel) (Nat.le_of_ble_eq_true rfl) dX1_takeMembers_2 (by rw [eS_1]; exact cFs_4) (fun H locs hw => ?_)
  refine lv_iconst (v := 0) hx hb dX1_takeMembers_5 (by decide) ?_
  refine lv_istore_n (lv' := [(2, .int 0), (0, .ref (ad 4)), (1, .int x1)]) hx hb dX1_takeMembers_6 rfl hl (by decide) rfl (fun ls hl => ?_)
  obtain ⟨n0, hq⟩ := hq
  refine kLX1_takeMembers_7 C x1 _ Q ?_ n0 S_1 0 hq _ _ _ hw (lv_sub hl [1, 2, 0] rfl)
  clear hw hl hq
  intro S_2 H locs ls hq hw hl
  refine lv_aload_n hx hb dX1_takeMembers_63 rfl (lv_at hl 0 rfl) ?_
  refine lv_aload_n hx hb dX1_takeMembers_64 rfl (lv_at hl 0 rfl) ?_
  refine w_get C hw uw_X1 4 cO_X1 rfl 7 (by decide) fl_X1_25 rfl dX1_takeMembers_65 ?_
  obtain ⟨S_3, eS_3⟩ : ∃ z, z = uF S_2 5 (S_2.2.2 4) := ⟨_, rfl⟩
  replace hq := hq S_3 eS_3
  refine w_put (ws' := cw ad cI cL S_3) C hw uw_X1 tyX1 tyX1_ok nmX1 4 cO_X1 rfl 8 (by decide) fl_X1_29 rfl (by decide +kernel) (Nat.le_of_ble_eq_true rfl) dX1_takeMembers_68 (by rw [eS_3]; exact cFs_5) (fun H locs hw => ?_)
  exact w_vret C hw hq dX1_takeMembers_71
set_option maxHeartbeats 4000000 in
set_option maxRecDepth 100000 in
theorem mX4_actsIn (l : Launch) (D : va_G) (ad : Nat → Nat) (cI cL : ClassId) (S : MS) (x1 : Int32) (x2 : Int32) (Q : Int32 → MS → Prop) (hq : wX4_actsIn S x1 x2 Q) : Mi l yX4_actsIn cX4_actsIn 3 (some .boolean) { frames := 0, cells := 0, slots := 0, locals := 0 } D (ctys cI cL) (cw ad cI cL) [.ref (ad 3), .int x1, .int x2] S Q := by
  refine Mi.of (by decide +kernel) (Nat.le_of_ble_eq_true rfl) ?_
  intro p e s m args below meth c A ls C hw hl
  have hx := C.1
  have hb := C.2.1
  have hl : lv_has ls 3 [(0, .ref (ad 3)), (1, .int x1), (2, .int x2)] := hl
  have hw : WW D (ctys cI cL) (cw ad cI cL S) A s s.heap [] := hw
  unfold wX4_actsIn at hq
  refine lv_aload_n hx hb dX4_actsIn_0 rfl (lv_at hl 0 rfl) ?_
  refine w_get C hw uw_X4 3 cO_X4 rfl 4 (by decide) fl_X4_24 rfl dX4_actsIn_1 ?_
  refine lv_iload_n hx hb dX4_actsIn_4 rfl (lv_at hl 1 rfl) ?_
  refine lv_iconst (v := 4) hx hb dX4_actsIn_5 (by decide) ?_
  refine lv_imul hx hb dX4_actsIn_6 ?_
  refine lv_iload_n hx hb dX4_actsIn_7 rfl (lv_at hl 2 rfl) ?_
  refine lv_bipush (v := 6) hx hb dX4_actsIn_8 (by decide) ?_
  refine lv_ishr hx hb dX4_actsIn_10 ?_
  refine lv_iadd hx hb dX4_actsIn_11 ?_
  obtain ⟨hin, hq⟩ := hq
  refine w_lld C hw 24 1 cL_1 rfl hin dX4_actsIn_12 ?_
  refine lv_iload_n hx hb dX4_actsIn_13 rfl (lv_at hl 2 rfl) ?_
  refine lv_bipush (v := 63) hx hb dX4_actsIn_14 (by decide) ?_
  refine lv_iand hx hb dX4_actsIn_16 ?_
  refine lv_lushr (v := (jlushr (S.2.1 1 ((x1 * 4) + (x2 >>> ((6 : Int32) &&& 31))).toNatClampNeg) (x2 &&& 63))) hx hb dX4_actsIn_17 rfl ?_
  refine lv_lconst (v := 1) hx hb dX4_actsIn_18 (by decide) ?_
  refine lv_land hx hb dX4_actsIn_19 ?_
  refine lv_lconst (v := 0) hx hb dX4_actsIn_20 (by decide) ?_
  refine W.lcmp hx hb dX4_actsIn_21 ?_
  refine lv_if_eq (tgt := 29) hx hb dX4_actsIn_22 (by decide) (fun hc => ?_) (fun hc => ?_)
  · replace hq := hq.1 hc
    refine lv_iconst (v := 0) hx hb dX4_actsIn_29 (by decide) ?_
    exact w_zret C hw rfl hq dX4_actsIn_30
  · replace hq := hq.2 hc
    refine lv_iconst (v := 1) hx hb dX4_actsIn_25 (by decide) ?_
    refine lv_goto (tgt := 30) hx hb dX4_actsIn_26 (by decide) ?_
    exact w_zret C hw rfl hq dX4_actsIn_30
set_option maxHeartbeats 4000000 in
set_option maxRecDepth 100000 in
theorem kJX5_packed_37 {p : Program} {l : Launch} {e : Env} {s : State} {m : MethodId} {args : Array Value} {below : List Frame} {meth : Method} {c : Code} {D : va_G} {ad : Nat → Nat} {cI cL : ClassId} {A : Nat → Prop} (C : Cx p s m args meth c yX5_packed.cls cX5_packed 5 (some .int)) (S : MS) (x0 : Int32) (x1 : Int32) (x2 : Int32) (x3 : Int32) (x4 : Int32) (Hd : MS → Int32 → Int32 → Int32 → Prop) (K : MS → Int32 → Prop) (Q : Int32 → MS → Prop) (hq : JX5_packed_37 S x0 x1 x2 x3 x4 Hd K Q) (H : Heap) (locs : List Loc) (ls : Array Slot) (hw : WW D (ctys cI cL) (cw ad cI cL S) A s H locs) (hl : lv_has ls 5 [(0, .int x0), (1, .int x1), (2, .int x2), (3, .int x3), (4, .int x4)]) (hH : ∀ (S : MS) (z2 : Int32) (z3 : Int32) (z4 : Int32) (H : Heap) (locs : List Loc) (ls : Array Slot), Hd S z2 z3 z4 → WW D (ctys cI cL) (cw ad cI cL S) A s H locs → lv_has ls 5 [(0, .int x0), (1, .int x1), (2, .int z2), (3, .int z3), (4, .int z4)] → W p l e { frames := 1, cells := 0, slots := 0, locals := 21 } s m args below meth c H locs 0 0 (Zi D (ctys cI cL) (cw ad cI cL) A below args s Q) (F0 m 7 ls [])) (hK : ∀ (S : MS) (z2 : Int32) (H : Heap) (locs : List Loc) (ls : Array Slot), K S z2 → WW D (ctys cI cL) (cw ad cI cL S) A s H locs → lv_has ls 5 [(2, .int z2)] → W p l e { frames := 1, cells := 0, slots := 0, locals := 21 } s m args below meth c H locs 0 0 (Zi D (ctys cI cL) (cw ad cI cL) A below args s Q) (F0 m 43 ls [])) : W p l e { frames := 1, cells := 0, slots := 0, locals := 21 } s m args below meth c H locs 0 0 (Zi D (ctys cI cL) (cw ad cI cL) A below args s Q) (F0 m 37 ls []) := by
  have hx := C.1
  have hb := C.2.1
  unfold JX5_packed_37 at hq
  refine lv_iinc (v := x4 + 1) (lv' := [(4, .int (x4 + 1)), (0, .int x0), (1, .int x1), (2, .int x2), (3, .int x3)]) hx hb dX5_packed_37 hl (k := 4) rfl rfl (by decide) rfl (fun ls hl => ?_)
  refine lv_goto (tgt := 7) hx hb dX5_packed_40 (by decide) ?_
  exact hH S x2 x3 (x4 + 1) _ _ _ hq hw (lv_sub hl [1, 2, 3, 4, 0] rfl)
set_option maxHeartbeats 4000000 in
set_option maxRecDepth 100000 in
theorem kLX5_packed_7 {p : Program} {l : Launch} {e : Env} {s : State} {m : MethodId} {args : Array Value} {below : List Frame} {meth : Method} {c : Code} {D : va_G} {ad : Nat → Nat} {cI cL : ClassId} {A : Nat → Prop} (C : Cx p s m args meth c yX5_packed.cls cX5_packed 5 (some .int)) (x0 : Int32) (x1 : Int32) (K : MS → Int32 → Prop) (Q : Int32 → MS → Prop) (hK : ∀ (S : MS) (z2 : Int32) (H : Heap) (locs : List Loc) (ls : Array Slot), K S z2 → WW D (ctys cI cL) (cw ad cI cL S) A s H locs → lv_has ls 5 [(2, .int z2)] → W p l e { frames := 1, cells := 0, slots := 0, locals := 21 } s m args below meth c H locs 0 0 (Zi D (ctys cI cL) (cw ad cI cL) A below args s Q) (F0 m 43 ls [])) : ∀ (n : Nat) (S : MS) (x2 : Int32) (x3 : Int32) (x4 : Int32) (_ : LX5_packed_7 x0 x1 K Q n S x2 x3 x4) (H : Heap) (locs : List Loc) (ls : Array Slot), WW D (ctys cI cL) (cw ad cI cL S) A s H locs → lv_has ls 5 [(0, .int x0), (1, .int x1), (2, .int x2), (3, .int x3), (4, .int x4)] → W p l e { frames := 1, cells := 0, slots := 0, locals := 21 } s m args below meth c H locs 0 0 (Zi D (ctys cI cL) (cw ad cI cL) A below args s Q) (F0 m 7 ls []) := by
  have hx := C.1
  have hb := C.2.1
  intro n
  induction n with
  | zero => intro S x2 x3 x4 hq; exact absurd hq (by rw [LX5_packed_7]; exact id)
  | succ n ih =>
    intro S x2 x3 x4 hq H locs ls hw hl
    rw [LX5_packed_7] at hq
    refine lv_iload hx hb dX5_packed_7 (lv_at hl 4 rfl) ?_
    refine lv_bipush (v := 12) hx hb dX5_packed_9 (by decide) ?_
    refine lv_icmp_ge (tgt := 43) hx hb dX5_packed_11 (by decide) (fun hc => ?_) (fun hc => ?_)
    · replace hq := hq.1 hc
      exact hK S x2 _ _ _ hq hw (lv_sub hl [2] rfl)
    · replace hq := hq.2 hc
      refine lv_iload_n hx hb dX5_packed_14 rfl (lv_at hl 1 rfl) ?_
      refine lv_iload hx hb dX5_packed_15 (lv_at hl 4 rfl) ?_
      refine w_calli hw (w_runS (rest := []) C hw (mX5_hasBit l D ad cI cL S x1 x4 _ hq _) kc_X5_hasBit ml_X5_180 ⟨rfl, rfl, Nat.le_of_ble_eq_true rfl, Nat.le_of_ble_eq_true rfl⟩ rfl rfl (Nat.le_of_ble_eq_true rfl) hl.1 dX5_packed_17) ?_
      clear hw hq
      intro r_2 S_1 H locs hq hw
      refine lv_if_eq (tgt := 37) hx hb dX5_packed_20 (by decide) (fun hc => ?_) (fun hc => ?_)
      · replace hq := hq.1 hc
        exact kJX5_packed_37 C S_1 x0 x1 x2 x3 x4 _ K Q hq _ _ _ hw (lv_sub hl [0, 1, 2, 3, 4] rfl) (fun S a2 a3 a4 H locs ls hq hw hl => ih S a2 a3 a4 hq H locs ls hw hl) hK
      · replace hq := hq.2 hc
        refine lv_iload_n hx hb dX5_packed_23 rfl (lv_at hl 2 rfl) ?_
        refine lv_iload_n hx hb dX5_packed_24 rfl (lv_at hl 0 rfl) ?_
        refine lv_iload hx hb dX5_packed_25 (lv_at hl 4 rfl) ?_
        refine lv_iushr (v := (jiushr x0 x4)) hx hb dX5_packed_27 rfl ?_
        refine lv_iconst (v := 1) hx hb dX5_packed_28 (by decide) ?_
        refine lv_iand hx hb dX5_packed_29 ?_
        refine lv_iload_n hx hb dX5_packed_30 rfl (lv_at hl 3 rfl) ?_
        refine lv_ishl hx hb dX5_packed_31 ?_
        refine lv_ior hx hb dX5_packed_32 ?_
        refine lv_topi (fun v_3 ev_3 => ?_)
        replace hq := hq v_3 ev_3
        refine lv_istore_n (lv' := [(2, .int v_3), (0, .int x0), (1, .int x1), (3, .int x3), (4, .int x4)]) hx hb dX5_packed_33 rfl hl (by decide) rfl (fun ls hl => ?_)
        refine lv_iinc (v := x3 + 1) (lv' := [(3, .int (x3 + 1)), (2, .int v_3), (0, .int x0), (1, .int x1), (4, .int x4)]) hx hb dX5_packed_34 hl (k := 3) rfl rfl (by decide) rfl (fun ls hl => ?_)
        exact kJX5_packed_37 C S_1 x0 x1 v_3 (x3 + 1) x4 _ K Q hq _ _ _ hw (lv_sub hl [2, 3, 1, 0, 4] rfl) (fun S a2 a3 a4 H locs ls hq hw hl => ih S a2 a3 a4 hq H locs ls hw hl) hK
set_option maxHeartbeats 4000000 in
set_option maxRecDepth 100000 in
theorem mX5_packed (l : Launch) (D : va_G) (ad : Nat → Nat) (cI cL : ClassId) (S : MS) (x0 : Int32) (x1 : Int32) (Q : Int32 → MS → Prop) (hq : wX5_packed S x0 x1 Q) : Mi l yX5_packed cX5_packed 5 (some .int) { frames := 1, cells := 0, slots := 0, locals := 21 } D (ctys cI cL) (cw ad cI cL) [.int x0, .int x1] S Q := by
  refine Mi.of (by decide +kernel) (Nat.le_of_ble_eq_true rfl) ?_
  intro p e s m args below meth c A ls C hw hl
  have hx := C.1
  have hb := C.2.1
  have hl : lv_has ls 5 [(0, .int x0), (1, .int x1)] := hl
  have hw : WW D (ctys cI cL) (cw ad cI cL S) A s s.heap [] := hw
  unfold wX5_packed at hq
  refine lv_iconst (v := 0) hx hb dX5_packed_0 (by decide) ?_
  refine lv_istore_n (lv' := [(2, .int 0), (0, .int x0), (1, .int x1)]) hx hb dX5_packed_1 rfl hl (by decide) rfl (fun ls hl => ?_)
  refine lv_iconst (v := 0) hx hb dX5_packed_2 (by decide) ?_
  refine lv_istore_n (lv' := [(3, .int 0), (2, .int 0), (0, .int x0), (1, .int x1)]) hx hb dX5_packed_3 rfl hl (by decide) rfl (fun ls hl => ?_)
  refine lv_iconst (v := 0) hx hb dX5_packed_4 (by decide) ?_
  refine lv_istore (lv' := [(4, .int 0), (3, .int 0), (2, .int 0), (0, .int x0), (1, .int x1)]) hx hb dX5_packed_5 hl (by decide) rfl (fun ls hl => ?_)
  obtain ⟨n0, hq⟩ := hq
  refine kLX5_packed_7 C x0 x1 _ Q ?_ n0 S 0 0 0 hq _ _ _ hw (lv_sub hl [3, 4, 2, 1, 0] rfl)
  clear hw hl hq
  intro S_1 y_2 H locs ls hq hw hl
  refine lv_iload_n hx hb dX5_packed_43 rfl (lv_at hl 0 rfl) ?_
  exact w_iret C hw hq dX5_packed_44
set_option maxHeartbeats 4000000 in
set_option maxRecDepth 100000 in
theorem kLX1_workIn_11 {p : Program} {l : Launch} {e : Env} {s : State} {m : MethodId} {args : Array Value} {below : List Frame} {meth : Method} {c : Code} {D : va_G} {ad : Nat → Nat} {cI cL : ClassId} {A : Nat → Prop} (C : Cx p s m args meth c yX1_workIn.cls cX1_workIn 6 none) (x1 : Int32) (x2 : Int64) (x4 : Int32) (K : MS → Prop) (Q : MS → Prop) (hK : ∀ (S : MS) (H : Heap) (locs : List Loc) (ls : Array Slot), K S  → WW D (ctys cI cL) (cw ad cI cL S) A s H locs → lv_has ls 6 [(0, .ref (ad 4))] → W p l e { frames := 0, cells := 0, slots := 0, locals := 0 } s m args below meth c H locs 0 0 (Zv D (ctys cI cL) (cw ad cI cL) A below args s Q) (F0 m 56 ls [])) : ∀ (n : Nat) (S : MS) (x5 : Int32) (_ : LX1_workIn_11 x1 x2 x4 K Q n S x5) (H : Heap) (locs : List Loc) (ls : Array Slot), WW D (ctys cI cL) (cw ad cI cL S) A s H locs → lv_has ls 6 [(0, .ref (ad 4)), (1, .int x1), (2, .long x2), (4, .int x4), (5, .int x5)] → W p l e { frames := 0, cells := 0, slots := 0, locals := 0 } s m args below meth c H locs 0 0 (Zv D (ctys cI cL) (cw ad cI cL) A below args s Q) (F0 m 11 ls []) := by
  have hx := C.1
  have hb := C.2.1
  intro n
  induction n with
  | zero => intro S x5 hq; exact absurd hq (by rw [LX1_workIn_11]; exact id)
  | succ n ih =>
    intro S x5 hq H locs ls hw hl
    rw [LX1_workIn_11] at hq
    refine lv_iload hx hb dX1_workIn_11 (lv_at hl 4 rfl) ?_
    refine lv_iload hx hb dX1_workIn_13 (lv_at hl 3 rfl) ?_
    refine lv_icmp_ge (tgt := 56) hx hb dX1_workIn_15 (by decide) (fun hc => ?_) (fun hc => ?_)
    · replace hq := hq.1 hc
      exact hK S  _ _ _ hq hw (lv_sub hl [0] rfl)
    · replace hq := hq.2 hc
      refine lv_aload_n hx hb dX1_workIn_18 rfl (lv_at hl 0 rfl) ?_
      refine w_get C hw uw_X1 4 cO_X1 rfl 3 (by decide) fl_X1_9 rfl dX1_workIn_19 ?_
      refine lv_iload hx hb dX1_workIn_22 (lv_at hl 4 rfl) ?_
      refine lv_ldc2 hx hb C.2.2.2.2.1 (C.w kk_X1_116 rfl) dX1_workIn_24 ?_
      refine lv_lload_n hx hb dX1_workIn_27 rfl (lv_at hl 2 rfl) ?_
      refine lv_lsub hx hb dX1_workIn_28 ?_
      refine lv_aload_n hx hb dX1_workIn_29 rfl (lv_at hl 0 rfl) ?_
      refine w_get C hw uw_X1 4 cO_X1 rfl 3 (by decide) fl_X1_9 rfl dX1_workIn_30 ?_
      refine lv_iload hx hb dX1_workIn_33 (lv_at hl 4 rfl) ?_
      obtain ⟨hin, hq⟩ := hq
      refine w_lld C hw 25 1 cL_2 rfl hin dX1_workIn_35 ?_
      refine lv_lmul hx hb dX1_workIn_36 ?_
      refine lv_lload_n hx hb dX1_workIn_37 rfl (lv_at hl 2 rfl) ?_
      refine lv_aload_n hx hb dX1_workIn_38 rfl (lv_at hl 0 rfl) ?_
      refine w_get C hw uw_X1 4 cO_X1 rfl 3 (by decide) fl_X1_9 rfl dX1_workIn_39 ?_
      refine lv_iload hx hb dX1_workIn_42 (lv_at hl 4 rfl) ?_
      refine lv_iload_n hx hb dX1_workIn_44 rfl (lv_at hl 1 rfl) ?_
      refine lv_ior hx hb dX1_workIn_45 ?_
      obtain ⟨hin, hq⟩ := hq
      refine w_lld C hw 25 1 cL_2 rfl hin dX1_workIn_46 ?_
      refine lv_lmul hx hb dX1_workIn_47 ?_
      refine lv_ladd hx hb dX1_workIn_48 ?_
      obtain ⟨hin, hq⟩ := hq
      obtain ⟨S_1, eS_1⟩ : ∃ z, z = uL S 2 x5.toNatClampNeg (((64 - x2) * (S.2.1 2 x5.toNatClampNeg)) + (x2 * (S.2.1 2 (x5 ||| x1).toNatClampNeg))) := ⟨_, rfl⟩
      replace hq := hq S_1 eS_1
      refine w_lst (ws' := cw ad cI cL S_1) C hw 25 1 cL_2 rfl hin dX1_workIn_49 (by rw [eS_1]; exact cLs_2) (fun H locs hw => ?_)
      refine lv_iinc (v := x5 + 1) (lv' := [(5, .int (x5 + 1)), (0, .ref (ad 4)), (1, .int x1), (2, .long x2), (4, .int x4)]) hx hb dX1_workIn_50 hl (k := 4) rfl rfl (by decide) rfl (fun ls hl => ?_)
      refine lv_goto (tgt := 11) hx hb dX1_workIn_53 (by decide) ?_
      exact ih S_1 (x5 + 1) hq _ _ _ hw (lv_sub hl [1, 2, 3, 4, 0] rfl)
set_option maxHeartbeats 4000000 in
set_option maxRecDepth 100000 in
theorem mX1_workIn (l : Launch) (D : va_G) (ad : Nat → Nat) (cI cL : ClassId) (S : MS) (x1 : Int32) (x2 : Int64) (Q : MS → Prop) (hq : wX1_workIn S x1 x2 Q) : Mv l yX1_workIn cX1_workIn 6 none { frames := 0, cells := 0, slots := 0, locals := 0 } D (ctys cI cL) (cw ad cI cL) [.ref (ad 4), .int x1, .long x2] S Q := by
  refine Mv.of (by decide +kernel) (Nat.le_of_ble_eq_true rfl) ?_
  intro p e s m args below meth c A ls C hw hl
  have hx := C.1
  have hb := C.2.1
  have hl : lv_has ls 6 [(0, .ref (ad 4)), (1, .int x1), (2, .long x2)] := hl
  have hw : WW D (ctys cI cL) (cw ad cI cL S) A s s.heap [] := hw
  unfold wX1_workIn at hq
  refine lv_iconst (v := 1) hx hb dX1_workIn_0 (by decide) ?_
  refine lv_aload_n hx hb dX1_workIn_1 rfl (lv_at hl 0 rfl) ?_
  refine w_get C hw uw_X1 4 cO_X1 rfl 7 (by decide) fl_X1_25 rfl dX1_workIn_2 ?_
  refine lv_ishl hx hb dX1_workIn_5 ?_
  refine lv_topi (fun v_1 ev_1 => ?_)
  replace hq := hq v_1 ev_1
  refine lv_istore (lv' := [(4, .int v_1), (0, .ref (ad 4)), (1, .int x1), (2, .long x2)]) hx hb dX1_workIn_6 hl (by decide) rfl (fun ls hl => ?_)
  refine lv_iconst (v := 0) hx hb dX1_workIn_8 (by decide) ?_
  refine lv_istore (lv' := [(5, .int 0), (4, .int v_1), (0, .ref (ad 4)), (1, .int x1), (2, .long x2)]) hx hb dX1_workIn_9 hl (by decide) rfl (fun ls hl => ?_)
  obtain ⟨n0, hq⟩ := hq
  refine kLX1_workIn_11 C x1 x2 v_1 _ Q ?_ n0 S 0 hq _ _ _ hw (lv_sub hl [2, 3, 4, 1, 0] rfl)
  clear hw hl hq
  intro S_2 H locs ls hq hw hl
  refine lv_aload_n hx hb dX1_workIn_56 rfl (lv_at hl 0 rfl) ?_
  refine lv_dup hx hb dX1_workIn_57 rfl ?_
  refine w_get C hw uw_X1 4 cO_X1 rfl 8 (by decide) fl_X1_29 rfl dX1_workIn_58 ?_
  refine lv_iconst (v := 1) hx hb dX1_workIn_61 (by decide) ?_
  refine lv_iadd hx hb dX1_workIn_62 ?_
  obtain ⟨S_3, eS_3⟩ : ∃ z, z = uF S_2 5 ((S_2.2.2 5) + 1) := ⟨_, rfl⟩
  replace hq := hq S_3 eS_3
  refine w_put (ws' := cw ad cI cL S_3) C hw uw_X1 tyX1 tyX1_ok nmX1 4 cO_X1 rfl 8 (by decide) fl_X1_29 rfl (by decide +kernel) (Nat.le_of_ble_eq_true rfl) dX1_workIn_63 (by rw [eS_3]; exact cFs_5) (fun H locs hw => ?_)
  exact w_vret C hw hq dX1_workIn_66
set_option maxHeartbeats 4000000 in
set_option maxRecDepth 100000 in
theorem kJX1_startFailing_45 {p : Program} {l : Launch} {e : Env} {s : State} {m : MethodId} {args : Array Value} {below : List Frame} {meth : Method} {c : Code} {D : va_G} {ad : Nat → Nat} {cI cL : ClassId} {A : Nat → Prop} (C : Cx p s m args meth c yX1_startFailing.cls cX1_startFailing 5 none) (S : MS) (x1 : Int32) (x2 : Int32) (x3 : Int32) (t0 : Int32) (t1 : Int64) (Hd : MS → Int32 → Prop) (K : MS → Prop) (Q : MS → Prop) (hq : JX1_startFailing_45 S x1 x2 x3 t0 t1 Hd K Q) (H : Heap) (locs : List Loc) (ls : Array Slot) (hw : WW D (ctys cI cL) (cw ad cI cL S) A s H locs) (hl : lv_has ls 5 [(0, .ref (ad 4)), (1, .int x1), (2, .int x2), (3, .int x3)]) (hH : ∀ (S : MS) (z3 : Int32) (H : Heap) (locs : List Loc) (ls : Array Slot), Hd S z3 → WW D (ctys cI cL) (cw ad cI cL S) A s H locs → lv_has ls 5 [(0, .ref (ad 4)), (1, .int x1), (2, .int x2), (3, .int z3)] → W p l e { frames := 2, cells := 0, slots := 0, locals := 45 } s m args below meth c H locs 0 0 (Zv D (ctys cI cL) (cw ad cI cL) A below args s Q) (F0 m 14 ls [])) (hK : ∀ (S : MS) (H : Heap) (locs : List Loc) (ls : Array Slot), K S  → WW D (ctys cI cL) (cw ad cI cL S) A s H locs → lv_has ls 5 [(0, .ref (ad 4)), (1, .int x1)] → W p l e { frames := 2, cells := 0, slots := 0, locals := 45 } s m args below meth c H locs 0 0 (Zv D (ctys cI cL) (cw ad cI cL) A below args s Q) (F0 m 52 ls [])) : W p l e { frames := 2, cells := 0, slots := 0, locals := 45 } s m args below meth c H locs 0 0 (Zv D (ctys cI cL) (cw ad cI cL) A below args s Q) (F0 m 45 ls [.long t1, .int t0, .ref (ad 25)]) := by
  have hx := C.1
  have hb := C.2.1
  unfold JX1_startFailing_45 at hq
  obtain ⟨hin, hq⟩ := hq
  obtain ⟨S_2, eS_2⟩ : ∃ z, z = uL S 2 t0.toNatClampNeg t1 := ⟨_, rfl⟩
  replace hq := hq S_2 eS_2
  refine w_lst (ws' := cw ad cI cL S_2) C hw 25 1 cL_2 rfl hin dX1_startFailing_45 (by rw [eS_2]; exact cLs_2) (fun H locs hw => ?_)
  refine lv_iinc (v := x3 + 1) (lv' := [(3, .int (x3 + 1)), (0, .ref (ad 4)), (1, .int x1), (2, .int x2)]) hx hb dX1_startFailing_46 hl (k := 3) rfl rfl (by decide) rfl (fun ls hl => ?_)
  refine lv_goto (tgt := 14) hx hb dX1_startFailing_49 (by decide) ?_
  exact hH S_2 (x3 + 1) _ _ _ hq hw (lv_sub hl [1, 2, 3, 0] rfl)
set_option maxHeartbeats 4000000 in
set_option maxRecDepth 100000 in
theorem kLX1_startFailing_14 {p : Program} {l : Launch} {e : Env} {s : State} {m : MethodId} {args : Array Value} {below : List Frame} {meth : Method} {c : Code} {D : va_G} {ad : Nat → Nat} {cI cL : ClassId} {A : Nat → Prop} (C : Cx p s m args meth c yX1_startFailing.cls cX1_startFailing 5 none) (x1 : Int32) (x2 : Int32) (K : MS → Prop) (Q : MS → Prop) (hK : ∀ (S : MS) (H : Heap) (locs : List Loc) (ls : Array Slot), K S  → WW D (ctys cI cL) (cw ad cI cL S) A s H locs → lv_has ls 5 [(0, .ref (ad 4)), (1, .int x1)] → W p l e { frames := 2, cells := 0, slots := 0, locals := 45 } s m args below meth c H locs 0 0 (Zv D (ctys cI cL) (cw ad cI cL) A below args s Q) (F0 m 52 ls [])) : ∀ (n : Nat) (S : MS) (x3 : Int32) (_ : LX1_startFailing_14 x1 x2 K Q n S x3) (H : Heap) (locs : List Loc) (ls : Array Slot), WW D (ctys cI cL) (cw ad cI cL S) A s H locs → lv_has ls 5 [(0, .ref (ad 4)), (1, .int x1), (2, .int x2), (3, .int x3)] → W p l e { frames := 2, cells := 0, slots := 0, locals := 45 } s m args below meth c H locs 0 0 (Zv D (ctys cI cL) (cw ad cI cL) A below args s Q) (F0 m 14 ls []) := by
  have hx := C.1
  have hb := C.2.1
  intro n
  induction n with
  | zero => intro S x3 hq; exact absurd hq (by rw [LX1_startFailing_14]; exact id)
  | succ n ih =>
    intro S x3 hq H locs ls hw hl
    rw [LX1_startFailing_14] at hq
    refine lv_iload_n hx hb dX1_startFailing_14 rfl (lv_at hl 3 rfl) ?_
    refine lv_iload_n hx hb dX1_startFailing_15 rfl (lv_at hl 2 rfl) ?_
    refine lv_icmp_ge (tgt := 52) hx hb dX1_startFailing_16 (by decide) (fun hc => ?_) (fun hc => ?_)
    · replace hq := hq.1 hc
      exact hK S  _ _ _ hq hw (lv_sub hl [0, 1] rfl)
    · replace hq := hq.2 hc
      refine lv_aload_n hx hb dX1_startFailing_19 rfl (lv_at hl 0 rfl) ?_
      refine w_get C hw uw_X1 4 cO_X1 rfl 3 (by decide) fl_X1_9 rfl dX1_startFailing_20 ?_
      refine lv_iload_n hx hb dX1_startFailing_23 rfl (lv_at hl 3 rfl) ?_
      refine lv_aload_n hx hb dX1_startFailing_24 rfl (lv_at hl 0 rfl) ?_
      refine w_get C hw uw_X1 4 cO_X1 rfl 2 (by decide) fl_X1_40 rfl dX1_startFailing_25 ?_
      refine lv_iload_n hx hb dX1_startFailing_28 rfl (lv_at hl 1 rfl) ?_
      refine lv_iload_n hx hb dX1_startFailing_29 rfl (lv_at hl 2 rfl) ?_
      refine lv_iconst (v := 1) hx hb dX1_startFailing_30 (by decide) ?_
      refine lv_isub hx hb dX1_startFailing_31 ?_
      refine lv_iload_n hx hb dX1_startFailing_32 rfl (lv_at hl 3 rfl) ?_
      refine lv_isub hx hb dX1_startFailing_33 ?_
      refine w_calli hw (w_runV (rest := [.int x3, .ref (ad 25)]) C hw (mX4_actsIn l D ad cI cL S x1 ((x2 - 1) - x3) _ hq _) kc_X4_actsIn ml_X1_73 3 cO_X4 rfl rfl ⟨rfl, rfl, Nat.le_of_ble_eq_true rfl, Nat.le_of_ble_eq_true rfl⟩ rfl rfl (Nat.le_of_ble_eq_true rfl) hl.1 dX1_startFailing_34) ?_
      clear hw hq
      intro r_2 S_1 H locs hq hw
      refine lv_if_eq (tgt := 44) hx hb dX1_startFailing_37 (by decide) (fun hc => ?_) (fun hc => ?_)
      · replace hq := hq.1 hc
        refine lv_lconst (v := 1) hx hb dX1_startFailing_44 (by decide) ?_
        exact kJX1_startFailing_45 C S_1 x1 x2 x3 x3 1 _ K Q hq _ _ _ hw (lv_sub hl [0, 1, 2, 3] rfl) (fun S a3 H locs ls hq hw hl => ih S a3 hq H locs ls hw hl) hK
      · replace hq := hq.2 hc
        refine lv_lconst (v := 0) hx hb dX1_startFailing_40 (by decide) ?_
        refine lv_goto (tgt := 45) hx hb dX1_startFailing_41 (by decide) ?_
        exact kJX1_startFailing_45 C S_1 x1 x2 x3 x3 0 _ K Q hq _ _ _ hw (lv_sub hl [0, 1, 2, 3] rfl) (fun S a3 H locs ls hq hw hl => ih S a3 hq H locs ls hw hl) hK
set_option maxHeartbeats 4000000 in
set_option maxRecDepth 100000 in
theorem kJX1_startFailing_106 {p : Program} {l : Launch} {e : Env} {s : State} {m : MethodId} {args : Array Value} {below : List Frame} {meth : Method} {c : Code} {D : va_G} {ad : Nat → Nat} {cI cL : ClassId} {A : Nat → Prop} (C : Cx p s m args meth c yX1_startFailing.cls cX1_startFailing 5 none) (S : MS) (x1 : Int32) (x3 : Int32) (Hd : MS → Int32 → Prop) (K : MS → Prop) (Q : MS → Prop) (hq : JX1_startFailing_106 S x1 x3 Hd K Q) (H : Heap) (locs : List Loc) (ls : Array Slot) (hw : WW D (ctys cI cL) (cw ad cI cL S) A s H locs) (hl : lv_has ls 5 [(0, .ref (ad 4)), (1, .int x1), (3, .int x3)]) (hH : ∀ (S : MS) (z3 : Int32) (H : Heap) (locs : List Loc) (ls : Array Slot), Hd S z3 → WW D (ctys cI cL) (cw ad cI cL S) A s H locs → lv_has ls 5 [(0, .ref (ad 4)), (1, .int x1), (3, .int z3)] → W p l e { frames := 2, cells := 0, slots := 0, locals := 45 } s m args below meth c H locs 0 0 (Zv D (ctys cI cL) (cw ad cI cL) A below args s Q) (F0 m 54 ls [])) (hK : ∀ (S : MS) (H : Heap) (locs : List Loc) (ls : Array Slot), K S  → WW D (ctys cI cL) (cw ad cI cL S) A s H locs → lv_has ls 5 [] → W p l e { frames := 2, cells := 0, slots := 0, locals := 45 } s m args below meth c H locs 0 0 (Zv D (ctys cI cL) (cw ad cI cL) A below args s Q) (F0 m 112 ls [])) : W p l e { frames := 2, cells := 0, slots := 0, locals := 45 } s m args below meth c H locs 0 0 (Zv D (ctys cI cL) (cw ad cI cL) A below args s Q) (F0 m 106 ls []) := by
  have hx := C.1
  have hb := C.2.1
  unfold JX1_startFailing_106 at hq
  refine lv_iinc (v := x3 + 1) (lv' := [(3, .int (x3 + 1)), (0, .ref (ad 4)), (1, .int x1)]) hx hb dX1_startFailing_106 hl (k := 2) rfl rfl (by decide) rfl (fun ls hl => ?_)
  refine lv_goto (tgt := 54) hx hb dX1_startFailing_109 (by decide) ?_
  exact hH S (x3 + 1) _ _ _ hq hw (lv_sub hl [1, 2, 0] rfl)
set_option maxHeartbeats 4000000 in
set_option maxRecDepth 100000 in
theorem kLX1_startFailing_54 {p : Program} {l : Launch} {e : Env} {s : State} {m : MethodId} {args : Array Value} {below : List Frame} {meth : Method} {c : Code} {D : va_G} {ad : Nat → Nat} {cI cL : ClassId} {A : Nat → Prop} (C : Cx p s m args meth c yX1_startFailing.cls cX1_startFailing 5 none) (x1 : Int32) (K : MS → Prop) (Q : MS → Prop) (hK : ∀ (S : MS) (H : Heap) (locs : List Loc) (ls : Array Slot), K S  → WW D (ctys cI cL) (cw ad cI cL S) A s H locs → lv_has ls 5 [] → W p l e { frames := 2, cells := 0, slots := 0, locals := 45 } s m args below meth c H locs 0 0 (Zv D (ctys cI cL) (cw ad cI cL) A below args s Q) (F0 m 112 ls [])) : ∀ (n : Nat) (S : MS) (x3 : Int32) (_ : LX1_startFailing_54 x1 K Q n S x3) (H : Heap) (locs : List Loc) (ls : Array Slot), WW D (ctys cI cL) (cw ad cI cL S) A s H locs → lv_has ls 5 [(0, .ref (ad 4)), (1, .int x1), (3, .int x3)] → W p l e { frames := 2, cells := 0, slots := 0, locals := 45 } s m args below meth c H locs 0 0 (Zv D (ctys cI cL) (cw ad cI cL) A below args s Q) (F0 m 54 ls []) := by
  have hx := C.1
  have hb := C.2.1
  intro n
  induction n with
  | zero => intro S x3 hq; exact absurd hq (by rw [LX1_startFailing_54]; exact id)
  | succ n ih =>
    intro S x3 hq H locs ls hw hl
    rw [LX1_startFailing_54] at hq
    refine lv_iload_n hx hb dX1_startFailing_54 rfl (lv_at hl 2 rfl) ?_
    refine lv_aload_n hx hb dX1_startFailing_55 rfl (lv_at hl 0 rfl) ?_
    refine w_get C hw uw_X1 4 cO_X1 rfl 1 (by decide) fl_X1_36 rfl dX1_startFailing_56 ?_
    refine w_calli hw (w_runV (rest := [.int x3]) C hw (mX0_size l D ad cI cL S _ hq _) kc_X0_size ml_X1_77 2 cO_X0 rfl rfl ⟨rfl, rfl, Nat.le_of_ble_eq_true rfl, Nat.le_of_ble_eq_true rfl⟩ rfl rfl (Nat.le_of_ble_eq_true rfl) hl.1 dX1_startFailing_59) ?_
    clear hw hq
    intro r_2 S_1 H locs hq hw
    refine lv_icmp_ge (tgt := 112) hx hb dX1_startFailing_62 (by decide) (fun hc => ?_) (fun hc => ?_)
    · replace hq := hq.1 hc
      exact hK S_1  _ _ _ hq hw (lv_sub hl [] rfl)
    · replace hq := hq.2 hc
      refine lv_aload_n hx hb dX1_startFailing_65 rfl (lv_at hl 0 rfl) ?_
      refine w_get C hw uw_X1 4 cO_X1 rfl 1 (by decide) fl_X1_36 rfl dX1_startFailing_66 ?_
      refine lv_iload_n hx hb dX1_startFailing_69 rfl (lv_at hl 2 rfl) ?_
      refine w_calli hw (w_runV (rest := []) C hw (mX0_struckBy l D ad cI cL S_1 x3 _ hq _) kc_X0_struckBy ml_X1_80 2 cO_X0 rfl rfl ⟨rfl, rfl, Nat.le_of_ble_eq_true rfl, Nat.le_of_ble_eq_true rfl⟩ rfl rfl (Nat.le_of_ble_eq_true rfl) hl.1 dX1_startFailing_70) ?_
      clear hw hq
      intro r_4 S_3 H locs hq hw
      refine lv_aload_n hx hb dX1_startFailing_73 rfl (lv_at hl 0 rfl) ?_
      refine w_get C hw uw_X1 4 cO_X1 rfl 2 (by decide) fl_X1_40 rfl dX1_startFailing_74 ?_
      refine lv_iload_n hx hb dX1_startFailing_77 rfl (lv_at hl 1 rfl) ?_
      refine w_calli hw (w_runV (rest := [.int r_4]) C hw (mX4_partsBelow l D ad cI cL S_3 x1 _ hq _) kc_X4_partsBelow ml_X1_44 3 cO_X4 rfl rfl ⟨rfl, rfl, Nat.le_of_ble_eq_true rfl, Nat.le_of_ble_eq_true rfl⟩ rfl rfl (Nat.le_of_ble_eq_true rfl) hl.1 dX1_startFailing_78) ?_
      clear hw hq
      intro r_6 S_5 H locs hq hw
      refine w_calli hw (w_runN (rest := []) C hw (mX5_packed l D ad cI cL S_5 r_4 r_6 _ hq _) kc_X5_packed ml_X1_83 ⟨rfl, rfl, Nat.le_of_ble_eq_true rfl, Nat.le_of_ble_eq_true rfl⟩ rfl rfl (Nat.le_of_ble_eq_true rfl) hl.1 dX1_startFailing_81) ?_
      clear hw hq
      intro r_8 S_7 H locs hq hw
      refine lv_istore (lv' := [(4, .int r_8), (0, .ref (ad 4)), (1, .int x1), (3, .int x3)]) hx hb dX1_startFailing_84 hl (by decide) rfl (fun ls hl => ?_)
      refine lv_iload hx hb dX1_startFailing_86 (lv_at hl 0 rfl) ?_
      refine lv_if_eq (tgt := 106) hx hb dX1_startFailing_88 (by decide) (fun hc => ?_) (fun hc => ?_)
      · replace hq := hq.1 hc
        exact kJX1_startFailing_106 C S_7 x1 x3 _ K Q hq _ _ _ hw (lv_sub hl [1, 2, 3] rfl) (fun S a3 H locs ls hq hw hl => ih S a3 hq H locs ls hw hl) hK
      · replace hq := hq.2 hc
        refine lv_aload_n hx hb dX1_startFailing_91 rfl (lv_at hl 1 rfl) ?_
        refine lv_iload hx hb dX1_startFailing_92 (lv_at hl 0 rfl) ?_
        refine lv_aload_n hx hb dX1_startFailing_94 rfl (lv_at hl 1 rfl) ?_
        refine w_get C hw uw_X1 4 cO_X1 rfl 1 (by decide) fl_X1_36 rfl dX1_startFailing_95 ?_
        refine lv_iload_n hx hb dX1_startFailing_98 rfl (lv_at hl 3 rfl) ?_
        refine w_calli hw (w_runV (rest := [.int r_8, .ref (ad 4)]) C hw (mX0_shareOf l D ad cI cL S_7 x3 _ hq _) kc_X0_shareOf ml_X1_87 2 cO_X0 rfl rfl ⟨rfl, rfl, Nat.le_of_ble_eq_true rfl, Nat.le_of_ble_eq_true rfl⟩ rfl rfl (Nat.le_of_ble_eq_true rfl) hl.1 dX1_startFailing_99) ?_
        clear hw hq
        intro r_10 S_9 H locs hq hw
        refine lv_i2l (v := r_10.toInt64) hx hb dX1_startFailing_102 rfl ?_
        refine w_callv hw (w_runV (rest := []) C hw (mX1_workIn l D ad cI cL S_9 r_8 r_10.toInt64 _ hq _) kc_X1_workIn ml_X1_90 4 cO_X1 rfl rfl ⟨rfl, rfl, Nat.le_of_ble_eq_true rfl, Nat.le_of_ble_eq_true rfl⟩ rfl rfl (Nat.le_of_ble_eq_true rfl) hl.1 dX1_startFailing_103) ?_
        clear hw hq
        intro S_11 H locs hq hw
        exact kJX1_startFailing_106 C S_11 x1 x3 _ K Q hq _ _ _ hw (lv_sub hl [1, 2, 3] rfl) (fun S a3 H locs ls hq hw hl => ih S a3 hq H locs ls hw hl) hK
set_option maxHeartbeats 4000000 in
set_option maxRecDepth 100000 in
theorem mX1_startFailing (l : Launch) (D : va_G) (ad : Nat → Nat) (cI cL : ClassId) (S : MS) (x1 : Int32) (Q : MS → Prop) (hq : wX1_startFailing S x1 Q) : Mv l yX1_startFailing cX1_startFailing 5 none { frames := 2, cells := 0, slots := 0, locals := 45 } D (ctys cI cL) (cw ad cI cL) [.ref (ad 4), .int x1] S Q := by
  refine Mv.of (by decide +kernel) (Nat.le_of_ble_eq_true rfl) ?_
  intro p e s m args below meth c A ls C hw hl
  have hx := C.1
  have hb := C.2.1
  have hl : lv_has ls 5 [(0, .ref (ad 4)), (1, .int x1)] := hl
  have hw : WW D (ctys cI cL) (cw ad cI cL S) A s s.heap [] := hw
  unfold wX1_startFailing at hq
  refine lv_aload_n hx hb dX1_startFailing_0 rfl (lv_at hl 0 rfl) ?_
  refine lv_iload_n hx hb dX1_startFailing_1 rfl (lv_at hl 1 rfl) ?_
  refine w_callv hw (w_runV (rest := []) C hw (mX1_takeMembers l D ad cI cL S x1 _ hq _) kc_X1_takeMembers ml_X1_69 4 cO_X1 rfl rfl ⟨rfl, rfl, Nat.le_of_ble_eq_true rfl, Nat.le_of_ble_eq_true rfl⟩ rfl rfl (Nat.le_of_ble_eq_true rfl) hl.1 dX1_startFailing_2) ?_
  clear hw hq
  intro S_1 H locs hq hw
  refine lv_iconst (v := 1) hx hb dX1_startFailing_5 (by decide) ?_
  refine lv_aload_n hx hb dX1_startFailing_6 rfl (lv_at hl 0 rfl) ?_
  refine w_get C hw uw_X1 4 cO_X1 rfl 7 (by decide) fl_X1_25 rfl dX1_startFailing_7 ?_
  refine lv_ishl hx hb dX1_startFailing_10 ?_
  refine lv_topi (fun v_3 ev_3 => ?_)
  replace hq := hq v_3 ev_3
  refine lv_istore_n (lv' := [(2, .int v_3), (0, .ref (ad 4)), (1, .int x1)]) hx hb dX1_startFailing_11 rfl hl (by decide) rfl (fun ls hl => ?_)
  refine lv_iconst (v := 0) hx hb dX1_startFailing_12 (by decide) ?_
  refine lv_istore_n (lv' := [(3, .int 0), (2, .int v_3), (0, .ref (ad 4)), (1, .int x1)]) hx hb dX1_startFailing_13 rfl hl (by decide) rfl (fun ls hl => ?_)
  obtain ⟨n0, hq⟩ := hq
  refine kLX1_startFailing_14 C x1 v_3 _ Q ?_ n0 S_1 0 hq _ _ _ hw (lv_sub hl [2, 3, 1, 0] rfl)
  clear hw hl hq
  intro S_4 H locs ls hq hw hl
  refine lv_iconst (v := 0) hx hb dX1_startFailing_52 (by decide) ?_
  refine lv_istore_n (lv' := [(3, .int 0), (0, .ref (ad 4)), (1, .int x1)]) hx hb dX1_startFailing_53 rfl hl (by decide) rfl (fun ls hl => ?_)
  obtain ⟨n0, hq⟩ := hq
  refine kLX1_startFailing_54 C x1 _ Q ?_ n0 S_4 0 hq _ _ _ hw (lv_sub hl [1, 2, 0] rfl)
  clear hw hl hq
  intro S_5 H locs ls hq hw hl
  exact w_vret C hw hq dX1_startFailing_112
set_option maxHeartbeats 4000000 in
set_option maxRecDepth 100000 in
theorem kJX2_testsUpTo_35 {p : Program} {l : Launch} {e : Env} {s : State} {m : MethodId} {args : Array Value} {below : List Frame} {meth : Method} {c : Code} {D : va_G} {ad : Nat → Nat} {cI cL : ClassId} {A : Nat → Prop} (C : Cx p s m args meth c yX2_testsUpTo.cls cX2_testsUpTo 5 (some .int)) (S : MS) (x1 : Int32) (x2 : Int32) (x3 : Int32) (x4 : Int32) (Hd : MS → Int32 → Int32 → Prop) (K : MS → Int32 → Prop) (Q : Int32 → MS → Prop) (hq : JX2_testsUpTo_35 S x1 x2 x3 x4 Hd K Q) (H : Heap) (locs : List Loc) (ls : Array Slot) (hw : WW D (ctys cI cL) (cw ad cI cL S) A s H locs) (hl : lv_has ls 5 [(0, .ref (ad 1)), (1, .int x1), (2, .int x2), (3, .int x3), (4, .int x4)]) (hH : ∀ (S : MS) (z3 : Int32) (z4 : Int32) (H : Heap) (locs : List Loc) (ls : Array Slot), Hd S z3 z4 → WW D (ctys cI cL) (cw ad cI cL S) A s H locs → lv_has ls 5 [(0, .ref (ad 1)), (1, .int x1), (2, .int x2), (3, .int z3), (4, .int z4)] → W p l e { frames := 0, cells := 0, slots := 0, locals := 0 } s m args below meth c H locs 0 0 (Zi D (ctys cI cL) (cw ad cI cL) A below args s Q) (F0 m 5 ls [])) (hK : ∀ (S : MS) (z3 : Int32) (H : Heap) (locs : List Loc) (ls : Array Slot), K S z3 → WW D (ctys cI cL) (cw ad cI cL S) A s H locs → lv_has ls 5 [(3, .int z3)] → W p l e { frames := 0, cells := 0, slots := 0, locals := 0 } s m args below meth c H locs 0 0 (Zi D (ctys cI cL) (cw ad cI cL) A below args s Q) (F0 m 41 ls [])) : W p l e { frames := 0, cells := 0, slots := 0, locals := 0 } s m args below meth c H locs 0 0 (Zi D (ctys cI cL) (cw ad cI cL) A below args s Q) (F0 m 35 ls []) := by
  have hx := C.1
  have hb := C.2.1
  unfold JX2_testsUpTo_35 at hq
  refine lv_iinc (v := x4 + 1) (lv' := [(4, .int (x4 + 1)), (0, .ref (ad 1)), (1, .int x1), (2, .int x2), (3, .int x3)]) hx hb dX2_testsUpTo_35 hl (k := 4) rfl rfl (by decide) rfl (fun ls hl => ?_)
  refine lv_goto (tgt := 5) hx hb dX2_testsUpTo_38 (by decide) ?_
  exact hH S x3 (x4 + 1) _ _ _ hq hw (lv_sub hl [1, 2, 3, 4, 0] rfl)
set_option maxHeartbeats 4000000 in
set_option maxRecDepth 100000 in
theorem kLX2_testsUpTo_5 {p : Program} {l : Launch} {e : Env} {s : State} {m : MethodId} {args : Array Value} {below : List Frame} {meth : Method} {c : Code} {D : va_G} {ad : Nat → Nat} {cI cL : ClassId} {A : Nat → Prop} (C : Cx p s m args meth c yX2_testsUpTo.cls cX2_testsUpTo 5 (some .int)) (x1 : Int32) (x2 : Int32) (K : MS → Int32 → Prop) (Q : Int32 → MS → Prop) (hK : ∀ (S : MS) (z3 : Int32) (H : Heap) (locs : List Loc) (ls : Array Slot), K S z3 → WW D (ctys cI cL) (cw ad cI cL S) A s H locs → lv_has ls 5 [(3, .int z3)] → W p l e { frames := 0, cells := 0, slots := 0, locals := 0 } s m args below meth c H locs 0 0 (Zi D (ctys cI cL) (cw ad cI cL) A below args s Q) (F0 m 41 ls [])) : ∀ (n : Nat) (S : MS) (x3 : Int32) (x4 : Int32) (_ : LX2_testsUpTo_5 x1 x2 K Q n S x3 x4) (H : Heap) (locs : List Loc) (ls : Array Slot), WW D (ctys cI cL) (cw ad cI cL S) A s H locs → lv_has ls 5 [(0, .ref (ad 1)), (1, .int x1), (2, .int x2), (3, .int x3), (4, .int x4)] → W p l e { frames := 0, cells := 0, slots := 0, locals := 0 } s m args below meth c H locs 0 0 (Zi D (ctys cI cL) (cw ad cI cL) A below args s Q) (F0 m 5 ls []) := by
  have hx := C.1
  have hb := C.2.1
  intro n
  induction n with
  | zero => intro S x3 x4 hq; exact absurd hq (by rw [LX2_testsUpTo_5]; exact id)
  | succ n ih =>
    intro S x3 x4 hq H locs ls hw hl
    rw [LX2_testsUpTo_5] at hq
    refine lv_iload hx hb dX2_testsUpTo_5 (lv_at hl 4 rfl) ?_
    refine lv_aload_n hx hb dX2_testsUpTo_7 rfl (lv_at hl 0 rfl) ?_
    refine w_get C hw uw_X2 1 cO_X2 rfl 4 (by decide) fl_X2_24 rfl dX2_testsUpTo_8 ?_
    refine lv_iload_n hx hb dX2_testsUpTo_11 rfl (lv_at hl 1 rfl) ?_
    obtain ⟨hin, hq⟩ := hq
    refine w_ild C hw 10 0 cI_4 rfl hin dX2_testsUpTo_12 ?_
    refine lv_icmp_ge (tgt := 41) hx hb dX2_testsUpTo_13 (by decide) (fun hc => ?_) (fun hc => ?_)
    · replace hq := hq.1 hc
      exact hK S x3 _ _ _ hq hw (lv_sub hl [3] rfl)
    · replace hq := hq.2 hc
      refine lv_aload_n hx hb dX2_testsUpTo_16 rfl (lv_at hl 0 rfl) ?_
      refine w_get C hw uw_X2 1 cO_X2 rfl 5 (by decide) fl_X2_27 rfl dX2_testsUpTo_17 ?_
      refine lv_iload_n hx hb dX2_testsUpTo_20 rfl (lv_at hl 1 rfl) ?_
      refine lv_bipush (v := 12) hx hb dX2_testsUpTo_21 (by decide) ?_
      refine lv_imul hx hb dX2_testsUpTo_23 ?_
      refine lv_iload hx hb dX2_testsUpTo_24 (lv_at hl 4 rfl) ?_
      refine lv_iadd hx hb dX2_testsUpTo_26 ?_
      obtain ⟨hin, hq⟩ := hq
      refine w_ild C hw 11 0 cI_5 rfl hin dX2_testsUpTo_27 ?_
      refine lv_iload_n hx hb dX2_testsUpTo_28 rfl (lv_at hl 2 rfl) ?_
      refine lv_icmp_gt (tgt := 35) hx hb dX2_testsUpTo_29 (by decide) (fun hc => ?_) (fun hc => ?_)
      · replace hq := hq.1 hc
        exact kJX2_testsUpTo_35 C S x1 x2 x3 x4 _ K Q hq _ _ _ hw (lv_sub hl [0, 1, 2, 3, 4] rfl) (fun S a3 a4 H locs ls hq hw hl => ih S a3 a4 hq H locs ls hw hl) hK
      · replace hq := hq.2 hc
        refine lv_iinc (v := x3 + 1) (lv' := [(3, .int (x3 + 1)), (0, .ref (ad 1)), (1, .int x1), (2, .int x2), (4, .int x4)]) hx hb dX2_testsUpTo_32 hl (k := 3) rfl rfl (by decide) rfl (fun ls hl => ?_)
        exact kJX2_testsUpTo_35 C S x1 x2 (x3 + 1) x4 _ K Q hq _ _ _ hw (lv_sub hl [1, 2, 3, 0, 4] rfl) (fun S a3 a4 H locs ls hq hw hl => ih S a3 a4 hq H locs ls hw hl) hK
set_option maxHeartbeats 4000000 in
set_option maxRecDepth 100000 in
theorem mX2_testsUpTo (l : Launch) (D : va_G) (ad : Nat → Nat) (cI cL : ClassId) (S : MS) (x1 : Int32) (x2 : Int32) (Q : Int32 → MS → Prop) (hq : wX2_testsUpTo S x1 x2 Q) : Mi l yX2_testsUpTo cX2_testsUpTo 5 (some .int) { frames := 0, cells := 0, slots := 0, locals := 0 } D (ctys cI cL) (cw ad cI cL) [.ref (ad 1), .int x1, .int x2] S Q := by
  refine Mi.of (by decide +kernel) (Nat.le_of_ble_eq_true rfl) ?_
  intro p e s m args below meth c A ls C hw hl
  have hx := C.1
  have hb := C.2.1
  have hl : lv_has ls 5 [(0, .ref (ad 1)), (1, .int x1), (2, .int x2)] := hl
  have hw : WW D (ctys cI cL) (cw ad cI cL S) A s s.heap [] := hw
  unfold wX2_testsUpTo at hq
  refine lv_iconst (v := 0) hx hb dX2_testsUpTo_0 (by decide) ?_
  refine lv_istore_n (lv' := [(3, .int 0), (0, .ref (ad 1)), (1, .int x1), (2, .int x2)]) hx hb dX2_testsUpTo_1 rfl hl (by decide) rfl (fun ls hl => ?_)
  refine lv_iconst (v := 0) hx hb dX2_testsUpTo_2 (by decide) ?_
  refine lv_istore (lv' := [(4, .int 0), (3, .int 0), (0, .ref (ad 1)), (1, .int x1), (2, .int x2)]) hx hb dX2_testsUpTo_3 hl (by decide) rfl (fun ls hl => ?_)
  obtain ⟨n0, hq⟩ := hq
  refine kLX2_testsUpTo_5 C x1 x2 _ Q ?_ n0 S 0 0 hq _ _ _ hw (lv_sub hl [2, 3, 4, 1, 0] rfl)
  clear hw hl hq
  intro S_1 y_2 H locs ls hq hw hl
  refine lv_iload_n hx hb dX2_testsUpTo_41 rfl (lv_at hl 0 rfl) ?_
  exact w_iret C hw hq dX2_testsUpTo_42
set_option maxHeartbeats 4000000 in
set_option maxRecDepth 100000 in
theorem mX2_shareAfter (l : Launch) (D : va_G) (ad : Nat → Nat) (cI cL : ClassId) (S : MS) (x1 : Int32) (x2 : Int32) (x3 : Int32) (Q : Int32 → MS → Prop) (hq : wX2_shareAfter S x1 x2 x3 Q) : Mi l yX2_shareAfter cX2_shareAfter 4 (some .int) { frames := 1, cells := 0, slots := 0, locals := 13 } D (ctys cI cL) (cw ad cI cL) [.ref (ad 1), .int x1, .int x2, .int x3] S Q := by
  refine Mi.of (by decide +kernel) (Nat.le_of_ble_eq_true rfl) ?_
  intro p e s m args below meth c A ls C hw hl
  have hx := C.1
  have hb := C.2.1
  have hl : lv_has ls 4 [(0, .ref (ad 1)), (1, .int x1), (2, .int x2), (3, .int x3)] := hl
  have hw : WW D (ctys cI cL) (cw ad cI cL S) A s s.heap [] := hw
  unfold wX2_shareAfter at hq
  refine lv_aload_n hx hb dX2_shareAfter_0 rfl (lv_at hl 0 rfl) ?_
  refine w_get C hw uw_X2 1 cO_X2 rfl 6 (by decide) fl_X2_30 rfl dX2_shareAfter_1 ?_
  refine lv_iload_n hx hb dX2_shareAfter_4 rfl (lv_at hl 1 rfl) ?_
  refine lv_bipush (v := 16) hx hb dX2_shareAfter_5 (by decide) ?_
  refine lv_imul hx hb dX2_shareAfter_7 ?_
  refine lv_iload_n hx hb dX2_shareAfter_8 rfl (lv_at hl 2 rfl) ?_
  refine lv_bipush (v := 6) hx hb dX2_shareAfter_9 (by decide) ?_
  refine lv_ishr hx hb dX2_shareAfter_11 ?_
  refine lv_iadd hx hb dX2_shareAfter_12 ?_
  obtain ⟨hin, hq⟩ := hq
  refine w_lld C hw 23 1 cL_0 rfl hin dX2_shareAfter_13 ?_
  refine lv_iload_n hx hb dX2_shareAfter_14 rfl (lv_at hl 2 rfl) ?_
  refine lv_bipush (v := 63) hx hb dX2_shareAfter_15 (by decide) ?_
  refine lv_iand hx hb dX2_shareAfter_17 ?_
  refine lv_lushr (v := (jlushr (S.2.1 0 ((x1 * 16) + (x2 >>> ((6 : Int32) &&& 31))).toNatClampNeg) (x2 &&& 63))) hx hb dX2_shareAfter_18 rfl ?_
  refine lv_lconst (v := 1) hx hb dX2_shareAfter_19 (by decide) ?_
  refine lv_land hx hb dX2_shareAfter_20 ?_
  refine lv_lconst (v := 0) hx hb dX2_shareAfter_21 (by decide) ?_
  refine W.lcmp hx hb dX2_shareAfter_22 ?_
  refine lv_if_eq (tgt := 29) hx hb dX2_shareAfter_23 (by decide) (fun hc => ?_) (fun hc => ?_)
  · replace hq := hq.1 hc
    refine lv_bipush (v := 64) hx hb dX2_shareAfter_29 (by decide) ?_
    refine lv_aload_n hx hb dX2_shareAfter_31 rfl (lv_at hl 0 rfl) ?_
    refine w_get C hw uw_X2 1 cO_X2 rfl 0 (by decide) fl_X2_9 rfl dX2_shareAfter_32 ?_
    refine lv_iload_n hx hb dX2_shareAfter_35 rfl (lv_at hl 1 rfl) ?_
    obtain ⟨hin, hq⟩ := hq
    refine w_ild C hw 6 0 cI_0 rfl hin dX2_shareAfter_36 ?_
    refine lv_aload_n hx hb dX2_shareAfter_37 rfl (lv_at hl 0 rfl) ?_
    refine w_get C hw uw_X2 1 cO_X2 rfl 1 (by decide) fl_X2_15 rfl dX2_shareAfter_38 ?_
    refine lv_iload_n hx hb dX2_shareAfter_41 rfl (lv_at hl 1 rfl) ?_
    obtain ⟨hin, hq⟩ := hq
    refine w_ild C hw 7 0 cI_1 rfl hin dX2_shareAfter_42 ?_
    refine lv_iload_n hx hb dX2_shareAfter_43 rfl (lv_at hl 3 rfl) ?_
    refine lv_imul hx hb dX2_shareAfter_44 ?_
    refine lv_iadd hx hb dX2_shareAfter_45 ?_
    refine va_mmin hx hb (C.2.2.2.1.trans hl.1.symm) C.2.2.2.2.1 (C.w ml_X2_59 rfl) (C.w kc_min.1 rfl) (C.w kc_min.2.1 rfl) (C.w kc_min.2.2 rfl) (Nat.le_of_ble_eq_true rfl) (Nat.le_of_ble_eq_true rfl) (Nat.zero_le _) (Nat.zero_le _) dX2_shareAfter_46 ?_
    exact w_iret C hw hq dX2_shareAfter_49
  · replace hq := hq.2 hc
    refine lv_bipush (v := 64) hx hb dX2_shareAfter_26 (by decide) ?_
    exact w_iret C hw hq dX2_shareAfter_28
set_option maxHeartbeats 4000000 in
set_option maxRecDepth 100000 in
theorem kJX2_shareOn_28 {p : Program} {l : Launch} {e : Env} {s : State} {m : MethodId} {args : Array Value} {below : List Frame} {meth : Method} {c : Code} {D : va_G} {ad : Nat → Nat} {cI cL : ClassId} {A : Nat → Prop} (C : Cx p s m args meth c yX2_shareOn.cls cX2_shareOn 5 (some .int)) (S : MS) (x1 : Int32) (x2 : Int32) (t0 : Int32) (Q : Int32 → MS → Prop) (hq : JX2_shareOn_28 S x1 x2 t0 Q) (H : Heap) (locs : List Loc) (ls : Array Slot) (hw : WW D (ctys cI cL) (cw ad cI cL S) A s H locs) (hl : lv_has ls 5 [(0, .ref (ad 1)), (1, .int x1), (2, .int x2)]) : W p l e { frames := 2, cells := 0, slots := 0, locals := 36 } s m args below meth c H locs 0 0 (Zi D (ctys cI cL) (cw ad cI cL) A below args s Q) (F0 m 28 ls [.int t0]) := by
  have hx := C.1
  have hb := C.2.1
  unfold JX2_shareOn_28 at hq
  refine lv_istore (lv' := [(4, .int t0), (0, .ref (ad 1)), (1, .int x1), (2, .int x2)]) hx hb dX2_shareOn_28 hl (by decide) rfl (fun ls hl => ?_)
  refine lv_aload_n hx hb dX2_shareOn_30 rfl (lv_at hl 1 rfl) ?_
  refine lv_iload_n hx hb dX2_shareOn_31 rfl (lv_at hl 2 rfl) ?_
  refine lv_iload_n hx hb dX2_shareOn_32 rfl (lv_at hl 3 rfl) ?_
  refine lv_iload_n hx hb dX2_shareOn_33 rfl (lv_at hl 3 rfl) ?_
  refine lv_iload hx hb dX2_shareOn_34 (lv_at hl 0 rfl) ?_
  refine lv_isub hx hb dX2_shareOn_36 ?_
  refine w_calli hw (w_runV (rest := []) C hw (mX2_shareAfter l D ad cI cL S x1 x2 (x2 - t0) _ hq _) kc_X2_shareAfter ml_X2_55 1 cO_X2 rfl rfl ⟨rfl, rfl, Nat.le_of_ble_eq_true rfl, Nat.le_of_ble_eq_true rfl⟩ rfl rfl (Nat.le_of_ble_eq_true rfl) hl.1 dX2_shareOn_37) ?_
  clear hw hq
  intro r_4 S_3 H locs hq hw
  exact w_iret C hw hq dX2_shareOn_40
set_option maxHeartbeats 4000000 in
set_option maxRecDepth 100000 in
theorem mX2_shareOn (l : Launch) (D : va_G) (ad : Nat → Nat) (cI cL : ClassId) (S : MS) (x1 : Int32) (x2 : Int32) (Q : Int32 → MS → Prop) (hq : wX2_shareOn S x1 x2 Q) : Mi l yX2_shareOn cX2_shareOn 5 (some .int) { frames := 2, cells := 0, slots := 0, locals := 36 } D (ctys cI cL) (cw ad cI cL) [.ref (ad 1), .int x1, .int x2] S Q := by
  refine Mi.of (by decide +kernel) (Nat.le_of_ble_eq_true rfl) ?_
  intro p e s m args below meth c A ls C hw hl
  have hx := C.1
  have hb := C.2.1
  have hl : lv_has ls 5 [(0, .ref (ad 1)), (1, .int x1), (2, .int x2)] := hl
  have hw : WW D (ctys cI cL) (cw ad cI cL S) A s s.heap [] := hw
  unfold wX2_shareOn at hq
  refine lv_aload_n hx hb dX2_shareOn_0 rfl (lv_at hl 0 rfl) ?_
  refine lv_iload_n hx hb dX2_shareOn_1 rfl (lv_at hl 1 rfl) ?_
  refine lv_iload_n hx hb dX2_shareOn_2 rfl (lv_at hl 2 rfl) ?_
  refine w_calli hw (w_runV (rest := []) C hw (mX2_testsUpTo l D ad cI cL S x1 x2 _ hq _) kc_X2_testsUpTo ml_X2_41 1 cO_X2 rfl rfl ⟨rfl, rfl, Nat.le_of_ble_eq_true rfl, Nat.le_of_ble_eq_true rfl⟩ rfl rfl (Nat.le_of_ble_eq_true rfl) hl.1 dX2_shareOn_3) ?_
  clear hw hq
  intro r_2 S_1 H locs hq hw
  refine lv_istore_n (lv' := [(3, .int r_2), (0, .ref (ad 1)), (1, .int x1), (2, .int x2)]) hx hb dX2_shareOn_6 rfl hl (by decide) rfl (fun ls hl => ?_)
  refine lv_iload_n hx hb dX2_shareOn_7 rfl (lv_at hl 0 rfl) ?_
  refine lv_if_ne (tgt := 15) hx hb dX2_shareOn_8 (by decide) (fun hc => ?_) (fun hc => ?_)
  · replace hq := hq.2 hc
    refine lv_aload_n hx hb dX2_shareOn_15 rfl (lv_at hl 1 rfl) ?_
    refine w_get C hw uw_X2 1 cO_X2 rfl 5 (by decide) fl_X2_27 rfl dX2_shareOn_16 ?_
    refine lv_iload_n hx hb dX2_shareOn_19 rfl (lv_at hl 2 rfl) ?_
    refine lv_bipush (v := 12) hx hb dX2_shareOn_20 (by decide) ?_
    refine lv_imul hx hb dX2_shareOn_22 ?_
    refine lv_iload_n hx hb dX2_shareOn_23 rfl (lv_at hl 0 rfl) ?_
    refine lv_iadd hx hb dX2_shareOn_24 ?_
    refine lv_iconst (v := 1) hx hb dX2_shareOn_25 (by decide) ?_
    refine lv_isub hx hb dX2_shareOn_26 ?_
    obtain ⟨hin, hq⟩ := hq
    refine w_ild C hw 11 0 cI_5 rfl hin dX2_shareOn_27 ?_
    exact kJX2_shareOn_28 C S_1 x1 x2 (S_1.1 5 (((x1 * 12) + r_2) - 1).toNatClampNeg) Q hq _ _ _ hw (lv_sub hl [1, 2, 3] rfl)
  · replace hq := hq.1 hc
    refine lv_iconst (v := 0) hx hb dX2_shareOn_11 (by decide) ?_
    refine lv_goto (tgt := 28) hx hb dX2_shareOn_12 (by decide) ?_
    exact kJX2_shareOn_28 C S_1 x1 x2 0 Q hq _ _ _ hw (lv_sub hl [1, 2, 3] rfl)
end
