-- ===== PART A: goes FIRST, ahead of the names: the tables' words, and 'selects' of the private methods out of them =====
/-- a private method of a class that the tables say can be made, by its rows of tables_1 -/
def lw_okq (q : MethodName × Nat) : Prop := (q.1.cls ≠ "java/lang/invoke/MethodHandle" ∧ q.1.cls ≠ "java/lang/invoke/VarHandle") ∧ Cond.instantiable q.1.cls q.2 ∈ tables_1 ∧ Cond.privateMethod q.1 ∈ tables_1 ∧ Cond.instanceMethod q.1 ∈ tables_1
theorem lw_p0 : lw_okq (⟨"BeamBoard$Tokens", "isLikeFirst", "(II)Z"⟩, 6) := ⟨⟨by decide +kernel, by decide +kernel⟩, List.mem_of_getElem? (i := 35) (by decide +kernel), List.mem_of_getElem? (i := 310) (by decide +kernel), List.mem_of_getElem? (i := 311) (by decide +kernel)⟩
theorem lw_p1 : lw_okq (⟨"BeamBoard$Tokens", "addWordOrNumber", "(II)V"⟩, 6) := ⟨⟨by decide +kernel, by decide +kernel⟩, List.mem_of_getElem? (i := 35) (by decide +kernel), List.mem_of_getElem? (i := 314) (by decide +kernel), List.mem_of_getElem? (i := 315) (by decide +kernel)⟩
theorem lw_p2 : lw_okq (⟨"BeamBoard$Tokens", "ownWord", "(II)I"⟩, 6) := ⟨⟨by decide +kernel, by decide +kernel⟩, List.mem_of_getElem? (i := 35) (by decide +kernel), List.mem_of_getElem? (i := 318) (by decide +kernel), List.mem_of_getElem? (i := 319) (by decide +kernel)⟩
theorem lw_p3 : lw_okq (⟨"BeamBoard$Tokens", "put", "(IIII)V"⟩, 6) := ⟨⟨by decide +kernel, by decide +kernel⟩, List.mem_of_getElem? (i := 35) (by decide +kernel), List.mem_of_getElem? (i := 371) (by decide +kernel), List.mem_of_getElem? (i := 372) (by decide +kernel)⟩
theorem lw_p4 : lw_okq (⟨"BeamBoard$Tokens", "packed", "(IIII)I"⟩, 6) := ⟨⟨by decide +kernel, by decide +kernel⟩, List.mem_of_getElem? (i := 35) (by decide +kernel), List.mem_of_getElem? (i := 375) (by decide +kernel), List.mem_of_getElem? (i := 376) (by decide +kernel)⟩
theorem lw_p5 : lw_okq (⟨"BeamBoard$Reader", "readSize", "()V"⟩, 9) := ⟨⟨by decide +kernel, by decide +kernel⟩, List.mem_of_getElem? (i := 29) (by decide +kernel), List.mem_of_getElem? (i := 386) (by decide +kernel), List.mem_of_getElem? (i := 387) (by decide +kernel)⟩
theorem lw_p6 : lw_okq (⟨"BeamBoard$Reader", "expect", "(I)V"⟩, 9) := ⟨⟨by decide +kernel, by decide +kernel⟩, List.mem_of_getElem? (i := 29) (by decide +kernel), List.mem_of_getElem? (i := 390) (by decide +kernel), List.mem_of_getElem? (i := 391) (by decide +kernel)⟩
theorem lw_p7 : lw_okq (⟨"BeamBoard$Reader", "isWord", "(I)Z"⟩, 9) := ⟨⟨by decide +kernel, by decide +kernel⟩, List.mem_of_getElem? (i := 29) (by decide +kernel), List.mem_of_getElem? (i := 394) (by decide +kernel), List.mem_of_getElem? (i := 395) (by decide +kernel)⟩
theorem lw_p8 : lw_okq (⟨"BeamBoard$Reader", "advance", "()V"⟩, 9) := ⟨⟨by decide +kernel, by decide +kernel⟩, List.mem_of_getElem? (i := 29) (by decide +kernel), List.mem_of_getElem? (i := 398) (by decide +kernel), List.mem_of_getElem? (i := 399) (by decide +kernel)⟩
theorem lw_p9 : lw_okq (⟨"BeamBoard$Reader", "refuseToken", "()V"⟩, 9) := ⟨⟨by decide +kernel, by decide +kernel⟩, List.mem_of_getElem? (i := 29) (by decide +kernel), List.mem_of_getElem? (i := 402) (by decide +kernel), List.mem_of_getElem? (i := 403) (by decide +kernel)⟩
theorem lw_p10 : lw_okq (⟨"BeamBoard$Reader", "refuse", "(II)V"⟩, 9) := ⟨⟨by decide +kernel, by decide +kernel⟩, List.mem_of_getElem? (i := 29) (by decide +kernel), List.mem_of_getElem? (i := 406) (by decide +kernel), List.mem_of_getElem? (i := 407) (by decide +kernel)⟩
theorem lw_p11 : lw_okq (⟨"BeamBoard$Reader", "readNumber", "(II)I"⟩, 9) := ⟨⟨by decide +kernel, by decide +kernel⟩, List.mem_of_getElem? (i := 29) (by decide +kernel), List.mem_of_getElem? (i := 410) (by decide +kernel), List.mem_of_getElem? (i := 411) (by decide +kernel)⟩
theorem lw_p12 : lw_okq (⟨"BeamBoard$Reader", "readPiece", "()V"⟩, 9) := ⟨⟨by decide +kernel, by decide +kernel⟩, List.mem_of_getElem? (i := 29) (by decide +kernel), List.mem_of_getElem? (i := 418) (by decide +kernel), List.mem_of_getElem? (i := 419) (by decide +kernel)⟩
theorem lw_p13 : lw_okq (⟨"BeamBoard$Reader", "choose", "(II)I"⟩, 9) := ⟨⟨by decide +kernel, by decide +kernel⟩, List.mem_of_getElem? (i := 29) (by decide +kernel), List.mem_of_getElem? (i := 429) (by decide +kernel), List.mem_of_getElem? (i := 430) (by decide +kernel)⟩
theorem lw_p14 : lw_okq (⟨"BeamBoard$Reader", "readNewName", "()V"⟩, 9) := ⟨⟨by decide +kernel, by decide +kernel⟩, List.mem_of_getElem? (i := 29) (by decide +kernel), List.mem_of_getElem? (i := 436) (by decide +kernel), List.mem_of_getElem? (i := 437) (by decide +kernel)⟩
theorem lw_p15 : lw_okq (⟨"BeamBoard$Reader", "readTest", "(I)V"⟩, 9) := ⟨⟨by decide +kernel, by decide +kernel⟩, List.mem_of_getElem? (i := 29) (by decide +kernel), List.mem_of_getElem? (i := 444) (by decide +kernel), List.mem_of_getElem? (i := 445) (by decide +kernel)⟩
def lw_privs_1 : List (MethodName × Nat) := [(⟨"BeamBoard$Tokens", "isLikeFirst", "(II)Z"⟩, 6), (⟨"BeamBoard$Tokens", "addWordOrNumber", "(II)V"⟩, 6), (⟨"BeamBoard$Tokens", "ownWord", "(II)I"⟩, 6), (⟨"BeamBoard$Tokens", "put", "(IIII)V"⟩, 6), (⟨"BeamBoard$Tokens", "packed", "(IIII)I"⟩, 6), (⟨"BeamBoard$Reader", "readSize", "()V"⟩, 9), (⟨"BeamBoard$Reader", "expect", "(I)V"⟩, 9), (⟨"BeamBoard$Reader", "isWord", "(I)Z"⟩, 9), (⟨"BeamBoard$Reader", "advance", "()V"⟩, 9), (⟨"BeamBoard$Reader", "refuseToken", "()V"⟩, 9), (⟨"BeamBoard$Reader", "refuse", "(II)V"⟩, 9), (⟨"BeamBoard$Reader", "readNumber", "(II)I"⟩, 9), (⟨"BeamBoard$Reader", "readPiece", "()V"⟩, 9), (⟨"BeamBoard$Reader", "choose", "(II)I"⟩, 9), (⟨"BeamBoard$Reader", "readNewName", "()V"⟩, 9), (⟨"BeamBoard$Reader", "readTest", "(I)V"⟩, 9)]
theorem lw_r1 : ∀ q ∈ lw_privs_1, lw_okq q := List.forall_mem_cons.mpr ⟨lw_p0, List.forall_mem_cons.mpr ⟨lw_p1, List.forall_mem_cons.mpr ⟨lw_p2, List.forall_mem_cons.mpr ⟨lw_p3, List.forall_mem_cons.mpr ⟨lw_p4, List.forall_mem_cons.mpr ⟨lw_p5, List.forall_mem_cons.mpr ⟨lw_p6, List.forall_mem_cons.mpr ⟨lw_p7, List.forall_mem_cons.mpr ⟨lw_p8, List.forall_mem_cons.mpr ⟨lw_p9, List.forall_mem_cons.mpr ⟨lw_p10, List.forall_mem_cons.mpr ⟨lw_p11, List.forall_mem_cons.mpr ⟨lw_p12, List.forall_mem_cons.mpr ⟨lw_p13, List.forall_mem_cons.mpr ⟨lw_p14, List.forall_mem_cons.mpr ⟨lw_p15, fun _ h => absurd h List.not_mem_nil⟩⟩⟩⟩⟩⟩⟩⟩⟩⟩⟩⟩⟩⟩⟩⟩
theorem lw_p16 : lw_okq (⟨"BeamBoard$Reader", "readFact", "(I)V"⟩, 9) := ⟨⟨by decide +kernel, by decide +kernel⟩, List.mem_of_getElem? (i := 29) (by decide +kernel), List.mem_of_getElem? (i := 448) (by decide +kernel), List.mem_of_getElem? (i := 449) (by decide +kernel)⟩
theorem lw_p17 : lw_okq (⟨"BeamBoard$Reader", "isSign", "(I)Z"⟩, 9) := ⟨⟨by decide +kernel, by decide +kernel⟩, List.mem_of_getElem? (i := 29) (by decide +kernel), List.mem_of_getElem? (i := 452) (by decide +kernel), List.mem_of_getElem? (i := 453) (by decide +kernel)⟩
theorem lw_p18 : lw_okq (⟨"BeamBoard$Reader", "expectSign", "(I)V"⟩, 9) := ⟨⟨by decide +kernel, by decide +kernel⟩, List.mem_of_getElem? (i := 29) (by decide +kernel), List.mem_of_getElem? (i := 460) (by decide +kernel), List.mem_of_getElem? (i := 461) (by decide +kernel)⟩
theorem lw_p19 : lw_okq (⟨"BeamBoard$Reader", "readSees", "()V"⟩, 9) := ⟨⟨by decide +kernel, by decide +kernel⟩, List.mem_of_getElem? (i := 29) (by decide +kernel), List.mem_of_getElem? (i := 464) (by decide +kernel), List.mem_of_getElem? (i := 465) (by decide +kernel)⟩
theorem lw_p20 : lw_okq (⟨"BeamBoard$Reader", "readSquare", "()I"⟩, 9) := ⟨⟨by decide +kernel, by decide +kernel⟩, List.mem_of_getElem? (i := 29) (by decide +kernel), List.mem_of_getElem? (i := 471) (by decide +kernel), List.mem_of_getElem? (i := 472) (by decide +kernel)⟩
theorem lw_p21 : lw_okq (⟨"BeamBoard$Reader", "findSeenEyes", "()V"⟩, 9) := ⟨⟨by decide +kernel, by decide +kernel⟩, List.mem_of_getElem? (i := 29) (by decide +kernel), List.mem_of_getElem? (i := 489) (by decide +kernel), List.mem_of_getElem? (i := 490) (by decide +kernel)⟩
theorem lw_p22 : lw_okq (⟨"BeamBoard", "lightNow", "()LBeamBoard$Light;"⟩, 14) := ⟨⟨by decide +kernel, by decide +kernel⟩, List.mem_of_getElem? (i := 21) (by decide +kernel), List.mem_of_getElem? (i := 515) (by decide +kernel), List.mem_of_getElem? (i := 516) (by decide +kernel)⟩
theorem lw_p23 : lw_okq (⟨"BeamBoard", "lightOf", "(II)LBeamBoard$Light;"⟩, 14) := ⟨⟨by decide +kernel, by decide +kernel⟩, List.mem_of_getElem? (i := 21) (by decide +kernel), List.mem_of_getElem? (i := 519) (by decide +kernel), List.mem_of_getElem? (i := 520) (by decide +kernel)⟩
theorem lw_p24 : lw_okq (⟨"BeamBoard$Light", "darken", "()V"⟩, 8) := ⟨⟨by decide +kernel, by decide +kernel⟩, List.mem_of_getElem? (i := 178) (by decide +kernel), List.mem_of_getElem? (i := 527) (by decide +kernel), List.mem_of_getElem? (i := 528) (by decide +kernel)⟩
theorem lw_p25 : lw_okq (⟨"BeamBoard$Light", "send", "(III)V"⟩, 8) := ⟨⟨by decide +kernel, by decide +kernel⟩, List.mem_of_getElem? (i := 178) (by decide +kernel), List.mem_of_getElem? (i := 539) (by decide +kernel), List.mem_of_getElem? (i := 540) (by decide +kernel)⟩
theorem lw_p26 : lw_okq (⟨"BeamBoard$Light", "spread", "(LBeamBoard$Table;)V"⟩, 8) := ⟨⟨by decide +kernel, by decide +kernel⟩, List.mem_of_getElem? (i := 178) (by decide +kernel), List.mem_of_getElem? (i := 543) (by decide +kernel), List.mem_of_getElem? (i := 544) (by decide +kernel)⟩
theorem lw_p27 : lw_okq (⟨"BeamBoard$Light", "pass", "(LBeamBoard$Table;II)V"⟩, 8) := ⟨⟨by decide +kernel, by decide +kernel⟩, List.mem_of_getElem? (i := 178) (by decide +kernel), List.mem_of_getElem? (i := 547) (by decide +kernel), List.mem_of_getElem? (i := 548) (by decide +kernel)⟩
theorem lw_p28 : lw_okq (⟨"BeamBoard", "isNumber", "(II)Z"⟩, 14) := ⟨⟨by decide +kernel, by decide +kernel⟩, List.mem_of_getElem? (i := 21) (by decide +kernel), List.mem_of_getElem? (i := 568) (by decide +kernel), List.mem_of_getElem? (i := 569) (by decide +kernel)⟩
theorem lw_p29 : lw_okq (⟨"BeamBoard", "putOnTape", "(I)V"⟩, 14) := ⟨⟨by decide +kernel, by decide +kernel⟩, List.mem_of_getElem? (i := 21) (by decide +kernel), List.mem_of_getElem? (i := 594) (by decide +kernel), List.mem_of_getElem? (i := 595) (by decide +kernel)⟩
def lw_privs_2 : List (MethodName × Nat) := [(⟨"BeamBoard$Reader", "readFact", "(I)V"⟩, 9), (⟨"BeamBoard$Reader", "isSign", "(I)Z"⟩, 9), (⟨"BeamBoard$Reader", "expectSign", "(I)V"⟩, 9), (⟨"BeamBoard$Reader", "readSees", "()V"⟩, 9), (⟨"BeamBoard$Reader", "readSquare", "()I"⟩, 9), (⟨"BeamBoard$Reader", "findSeenEyes", "()V"⟩, 9), (⟨"BeamBoard", "lightNow", "()LBeamBoard$Light;"⟩, 14), (⟨"BeamBoard", "lightOf", "(II)LBeamBoard$Light;"⟩, 14), (⟨"BeamBoard$Light", "darken", "()V"⟩, 8), (⟨"BeamBoard$Light", "send", "(III)V"⟩, 8), (⟨"BeamBoard$Light", "spread", "(LBeamBoard$Table;)V"⟩, 8), (⟨"BeamBoard$Light", "pass", "(LBeamBoard$Table;II)V"⟩, 8), (⟨"BeamBoard", "isNumber", "(II)Z"⟩, 14), (⟨"BeamBoard", "putOnTape", "(I)V"⟩, 14)]
theorem lw_r2 : ∀ q ∈ lw_privs_2, lw_okq q := List.forall_mem_cons.mpr ⟨lw_p16, List.forall_mem_cons.mpr ⟨lw_p17, List.forall_mem_cons.mpr ⟨lw_p18, List.forall_mem_cons.mpr ⟨lw_p19, List.forall_mem_cons.mpr ⟨lw_p20, List.forall_mem_cons.mpr ⟨lw_p21, List.forall_mem_cons.mpr ⟨lw_p22, List.forall_mem_cons.mpr ⟨lw_p23, List.forall_mem_cons.mpr ⟨lw_p24, List.forall_mem_cons.mpr ⟨lw_p25, List.forall_mem_cons.mpr ⟨lw_p26, List.forall_mem_cons.mpr ⟨lw_p27, List.forall_mem_cons.mpr ⟨lw_p28, List.forall_mem_cons.mpr ⟨lw_p29, fun _ h => absurd h List.not_mem_nil⟩⟩⟩⟩⟩⟩⟩⟩⟩⟩⟩⟩⟩⟩
def lw_privs : List (MethodName × Nat) := lw_privs_1 ++ (lw_privs_2)
def lw_tbl : List Cond := k2_sels lw_privs ++ tables_1
theorem lw_privs_ok : ∀ q ∈ lw_privs, lw_okq q := by
  show ∀ q ∈ lw_privs_1 ++ (lw_privs_2), lw_okq q
  exact List.forall_mem_append.mpr ⟨lw_r1, lw_r2⟩

def zR_C : String := "BeamBoard$Course"
def zF_C : u_T := fun k => match k with
  | 0 => ("BeamBoard$Course", "light", "LBeamBoard$Light;", true)
  | 1 => ("BeamBoard$Course", "following", "[I", true)
  | 2 => ("BeamBoard$Course", "eyes", "[I", true)
  | 3 => ("BeamBoard$Course", "path", "[I", true)
  | 4 => ("BeamBoard$Course", "placeOnPath", "[I", true)
  | 5 => ("BeamBoard$Course", "pathLength", "I", false)
  | _ => ("BeamBoard$Course", "lead", "I", false)
def zT_C : Nat → FieldType := fun k => match k with
  | 0 => .object "BeamBoard$Light"
  | 1 => .array .int
  | 2 => .array .int
  | 3 => .array .int
  | 4 => .array .int
  | 5 => .int
  | _ => .int
theorem zn_C : ∀ a, a < 7 → ∀ b, b < 7 → a ≠ b → (zF_C a).2.1 ≠ (zF_C b).2.1 := by decide +kernel
theorem zt_C : ∀ k, k < 7 → parseFieldDescriptor (zF_C k).2.2.1 = some (zT_C k) := by decide +kernel
theorem zi_C : ∀ w ∈ u_ws zR_C zF_C 7, w ∈ lw_tbl := by decide +kernel
def zR_L : String := "BeamBoard$Light"
def zF_L : u_T := fun k => match k with
  | 0 => ("BeamBoard$Light", "into", "[I", true)
  | 1 => ("BeamBoard$Light", "seen", "[I", true)
  | 2 => ("BeamBoard$Light", "eyesLit", "I", false)
  | 3 => ("BeamBoard$Light", "arrivals", "I", false)
  | 4 => ("BeamBoard$Light", "arrived", "[I", true)
  | 5 => ("BeamBoard$Light", "far", "[I", true)
  | 6 => ("BeamBoard$Light", "turned", "I", false)
  | _ => ("BeamBoard$Light", "state", "I", false)
def zT_L : Nat → FieldType := fun k => match k with
  | 0 => .array .int
  | 1 => .array .int
  | 2 => .int
  | 3 => .int
  | 4 => .array .int
  | 5 => .array .int
  | 6 => .int
  | _ => .int
theorem zn_L : ∀ a, a < 8 → ∀ b, b < 8 → a ≠ b → (zF_L a).2.1 ≠ (zF_L b).2.1 := by decide +kernel
theorem zt_L : ∀ k, k < 8 → parseFieldDescriptor (zF_L k).2.2.1 = some (zT_L k) := by decide +kernel
theorem zi_L : ∀ w ∈ u_ws zR_L zF_L 8, w ∈ lw_tbl := by decide +kernel
def zR_R : String := "BeamBoard$Reader"
def zF_R : u_T := fun k => match k with
  | 0 => ("BeamBoard$Reader", "faultFound", "I", false)
  | 1 => ("BeamBoard$Reader", "faultPlace", "I", false)
  | 2 => ("BeamBoard$Reader", "tokens", "LBeamBoard$Tokens;", true)
  | 3 => ("BeamBoard$Reader", "at", "I", false)
  | 4 => ("BeamBoard$Reader", "table", "LBeamBoard$Table;", false)
  | 5 => ("BeamBoard$Reader", "seenName", "[I", true)
  | 6 => ("BeamBoard$Reader", "seenPlace", "[I", true)
  | 7 => ("BeamBoard$Reader", "seenCode", "[I", true)
  | _ => ("BeamBoard$Reader", "seenCount", "I", false)
def zT_R : Nat → FieldType := fun k => match k with
  | 0 => .int
  | 1 => .int
  | 2 => .object "BeamBoard$Tokens"
  | 3 => .int
  | 4 => .object "BeamBoard$Table"
  | 5 => .array .int
  | 6 => .array .int
  | 7 => .array .int
  | _ => .int
theorem zn_R : ∀ a, a < 9 → ∀ b, b < 9 → a ≠ b → (zF_R a).2.1 ≠ (zF_R b).2.1 := by decide +kernel
theorem zt_R : ∀ k, k < 9 → parseFieldDescriptor (zF_R k).2.2.1 = some (zT_R k) := by decide +kernel
theorem zi_R : ∀ w ∈ u_ws zR_R zF_R 9, w ∈ lw_tbl := by decide +kernel
def zR_S : String := "BeamBoard$Settings"
def zF_S : u_T := fun k => match k with
  | 0 => ("BeamBoard$Settings", "turned", "[I", true)
  | 1 => ("BeamBoard$Settings", "state", "[I", true)
  | _ => ("BeamBoard$Settings", "count", "I", false)
def zT_S : Nat → FieldType := fun k => match k with
  | 0 => .array .int
  | 1 => .array .int
  | _ => .int
theorem zn_S : ∀ a, a < 3 → ∀ b, b < 3 → a ≠ b → (zF_S a).2.1 ≠ (zF_S b).2.1 := by decide +kernel
theorem zt_S : ∀ k, k < 3 → parseFieldDescriptor (zF_S k).2.2.1 = some (zT_S k) := by decide +kernel
theorem zi_S : ∀ w ∈ u_ws zR_S zF_S 3, w ∈ lw_tbl := by decide +kernel
def zR_T : String := "BeamBoard$Table"
def zF_T : u_T := fun k => match k with
  | 0 => ("BeamBoard$Table", "columns", "I", false)
  | 1 => ("BeamBoard$Table", "rows", "I", false)
  | 2 => ("BeamBoard$Table", "next", "[I", true)
  | 3 => ("BeamBoard$Table", "pieceOn", "[I", true)
  | 4 => ("BeamBoard$Table", "pieces", "I", false)
  | 5 => ("BeamBoard$Table", "squareOf", "[I", true)
  | 6 => ("BeamBoard$Table", "sort", "[I", true)
  | 7 => ("BeamBoard$Table", "number", "[I", true)
  | 8 => ("BeamBoard$Table", "look", "[I", true)
  | 9 => ("BeamBoard$Table", "wayOf", "[I", true)
  | 10 => ("BeamBoard$Table", "count", "[I", true)
  | 11 => ("BeamBoard$Table", "members", "[I", true)
  | 12 => ("BeamBoard$Table", "names", "[I", true)
  | 13 => ("BeamBoard$Table", "code", "[I", true)
  | 14 => ("BeamBoard$Table", "codeLength", "I", false)
  | _ => ("BeamBoard$Table", "codeEnd", "[I", true)
def zT_T : Nat → FieldType := fun k => match k with
  | 0 => .int
  | 1 => .int
  | 2 => .array .int
  | 3 => .array .int
  | 4 => .int
  | 5 => .array .int
  | 6 => .array .int
  | 7 => .array .int
  | 8 => .array .int
  | 9 => .array .int
  | 10 => .array .int
  | 11 => .array .int
  | 12 => .array .int
  | 13 => .array .int
  | 14 => .int
  | _ => .array .int
theorem zn_T : ∀ a, a < 16 → ∀ b, b < 16 → a ≠ b → (zF_T a).2.1 ≠ (zF_T b).2.1 := by decide +kernel
theorem zt_T : ∀ k, k < 16 → parseFieldDescriptor (zF_T k).2.2.1 = some (zT_T k) := by decide +kernel
theorem zi_T : ∀ w ∈ u_ws zR_T zF_T 16, w ∈ lw_tbl := by decide +kernel
def zR_K : String := "BeamBoard$Tokens"
def zF_K : u_T := fun k => match k with
  | 0 => ("BeamBoard$Tokens", "kind", "[I", true)
  | 1 => ("BeamBoard$Tokens", "value", "[I", true)
  | 2 => ("BeamBoard$Tokens", "place", "[I", true)
  | 3 => ("BeamBoard$Tokens", "faultPlace", "[I", true)
  | 4 => ("BeamBoard$Tokens", "count", "I", false)
  | _ => ("BeamBoard$Tokens", "text", "[I", false)
def zT_K : Nat → FieldType := fun k => match k with
  | 0 => .array .int
  | 1 => .array .int
  | 2 => .array .int
  | 3 => .array .int
  | 4 => .int
  | _ => .array .int
theorem zn_K : ∀ a, a < 6 → ∀ b, b < 6 → a ≠ b → (zF_K a).2.1 ≠ (zF_K b).2.1 := by decide +kernel
theorem zt_K : ∀ k, k < 6 → parseFieldDescriptor (zF_K k).2.2.1 = some (zT_K k) := by decide +kernel
theorem zi_K : ∀ w ∈ u_ws zR_K zF_K 6, w ∈ lw_tbl := by decide +kernel
def zR_B : String := "BeamBoard"
def zF_B : u_T := fun k => match k with
  | 0 => ("BeamBoard", "tape", "[I", true)
  | 1 => ("BeamBoard", "tapeLength", "I", false)
  | 2 => ("BeamBoard", "reader", "LBeamBoard$Reader;", true)
  | 3 => ("BeamBoard", "table", "LBeamBoard$Table;", false)
  | 4 => ("BeamBoard", "course", "LBeamBoard$Course;", true)
  | 5 => ("BeamBoard", "ringLight", "LBeamBoard$Light;", true)
  | 6 => ("BeamBoard", "marks", "[I", true)
  | 7 => ("BeamBoard", "turned", "I", false)
  | 8 => ("BeamBoard", "state", "I", false)
  | 9 => ("BeamBoard", "wantedLit", "I", false)
  | 10 => ("BeamBoard", "wantedDark", "I", false)
  | 11 => ("BeamBoard", "past", "LBeamBoard$Settings;", true)
  | 12 => ("BeamBoard", "written", "[I", true)
  | _ => ("BeamBoard", "writtenLength", "I", false)
def zT_B : Nat → FieldType := fun k => match k with
  | 0 => .array .int
  | 1 => .int
  | 2 => .object "BeamBoard$Reader"
  | 3 => .object "BeamBoard$Table"
  | 4 => .object "BeamBoard$Course"
  | 5 => .object "BeamBoard$Light"
  | 6 => .array .int
  | 7 => .int
  | 8 => .int
  | 9 => .int
  | 10 => .int
  | 11 => .object "BeamBoard$Settings"
  | 12 => .array .int
  | _ => .int
theorem zn_B : ∀ a, a < 14 → ∀ b, b < 14 → a ≠ b → (zF_B a).2.1 ≠ (zF_B b).2.1 := by decide +kernel
theorem zt_B : ∀ k, k < 14 → parseFieldDescriptor (zF_B k).2.2.1 = some (zT_B k) := by decide +kernel
theorem zi_B : ∀ w ∈ u_ws zR_B zF_B 14, w ∈ lw_tbl := by decide +kernel
def zR_JS : String := "java/lang/String"
def zF_JS : u_T := fun k => match k with
  | 0 => ("java/lang/String", "value", "[B", true)
  | 1 => ("java/lang/String", "coder", "B", true)
  | 2 => ("java/lang/String", "hash", "I", false)
  | _ => ("java/lang/String", "hashIsZero", "Z", false)
def zT_JS : Nat → FieldType := fun k => match k with
  | 0 => .array .byte
  | 1 => .byte
  | 2 => .int
  | _ => .boolean
theorem zn_JS : ∀ a, a < 4 → ∀ b, b < 4 → a ≠ b → (zF_JS a).2.1 ≠ (zF_JS b).2.1 := by decide +kernel
theorem zt_JS : ∀ k, k < 4 → parseFieldDescriptor (zF_JS k).2.2.1 = some (zT_JS k) := by decide +kernel
theorem zi_JS : ∀ w ∈ u_ws zR_JS zF_JS 4, w ∈ lw_tbl := by decide +kernel
def zR_JD : String := "java/lang/StringBuilder"
def zF_JD : u_T := fun k => match k with
  | 0 => ("java/lang/AbstractStringBuilder", "value", "[B", false)
  | 1 => ("java/lang/AbstractStringBuilder", "coder", "B", false)
  | 2 => ("java/lang/AbstractStringBuilder", "maybeLatin1", "Z", false)
  | _ => ("java/lang/AbstractStringBuilder", "count", "I", false)
def zT_JD : Nat → FieldType := fun k => match k with
  | 0 => .array .byte
  | 1 => .byte
  | 2 => .boolean
  | _ => .int
theorem zn_JD : ∀ a, a < 4 → ∀ b, b < 4 → a ≠ b → (zF_JD a).2.1 ≠ (zF_JD b).2.1 := by decide +kernel
theorem zt_JD : ∀ k, k < 4 → parseFieldDescriptor (zF_JD k).2.2.1 = some (zT_JD k) := by decide +kernel
theorem zi_JD : ∀ w ∈ u_ws zR_JD zF_JD 4, w ∈ lw_tbl := by decide +kernel
def zR_M : String := "BeamBoardModel"
def zR_JB : String := "java/lang/AbstractStringBuilder"
def zR_JI : String := "java/lang/Integer"
def zR_JM : String := "java/lang/Math"
def zR_JL : String := "java/lang/StringLatin1"
def zR_JU : String := "java/lang/StringUTF16"
def zR_JY : String := "java/lang/System"
def zR_JA : String := "java/util/Arrays"
def zR_JV : String := "jdk/internal/util/ArraysSupport"
def zR_JP : String := "jdk/internal/util/Preconditions"
def zR_W : String := "BeamBoardLaw"
abbrev zcl : List vw_C := [(zR_C, zF_C, 7), (zR_L, zF_L, 8), (zR_R, zF_R, 9), (zR_S, zF_S, 3), (zR_T, zF_T, 16), (zR_K, zF_K, 6), (zR_B, zF_B, 14), (zR_JS, zF_JS, 4), (zR_JD, zF_JD, 4)]
abbrev zb_C_init : ByteArray := prog_2_method_1_code
def zy_C_init : MethodName := ⟨zR_C, "<init>", "()V"⟩
abbrev zb_L_init : ByteArray := prog_3_method_1_code
def zy_L_init : MethodName := ⟨zR_L, "<init>", "()V"⟩
abbrev zb_L_shine : ByteArray := prog_3_method_2_code
def zy_L_shine : MethodName := ⟨zR_L, "shine", "(LBeamBoard$Table;IIII)V"⟩
abbrev zb_L_darken : ByteArray := prog_3_method_4_code
def zy_L_darken : MethodName := ⟨zR_L, "darken", "()V"⟩
abbrev zb_L_spread : ByteArray := prog_3_method_5_code
def zy_L_spread : MethodName := ⟨zR_L, "spread", "(LBeamBoard$Table;)V"⟩
abbrev zb_L_pass : ByteArray := prog_3_method_6_code
def zy_L_pass : MethodName := ⟨zR_L, "pass", "(LBeamBoard$Table;II)V"⟩
abbrev zb_L_turnedWay : ByteArray := prog_3_method_7_code
def zy_L_turnedWay : MethodName := ⟨zR_L, "turnedWay", "(II)I"⟩
abbrev zb_L_send : ByteArray := prog_3_method_8_code
def zy_L_send : MethodName := ⟨zR_L, "send", "(III)V"⟩
abbrev zb_L_comesInto : ByteArray := prog_3_method_9_code
def zy_L_comesInto : MethodName := ⟨zR_L, "comesInto", "(I)I"⟩
abbrev zb_L_arrivedNode : ByteArray := prog_3_method_11_code
def zy_L_arrivedNode : MethodName := ⟨zR_L, "arrivedNode", "(I)I"⟩
abbrev zb_R_init : ByteArray := prog_4_method_1_code
def zy_R_init : MethodName := ⟨zR_R, "<init>", "()V"⟩
abbrev zb_R_giveTable : ByteArray := prog_4_method_2_code
def zy_R_giveTable : MethodName := ⟨zR_R, "giveTable", "(LBeamBoard$Table;)LBeamBoard$Table;"⟩
abbrev zb_R_read : ByteArray := prog_4_method_3_code
def zy_R_read : MethodName := ⟨zR_R, "read", "([II)I"⟩
abbrev zb_R_readSize : ByteArray := prog_4_method_4_code
def zy_R_readSize : MethodName := ⟨zR_R, "readSize", "()V"⟩
abbrev zb_R_readPiece : ByteArray := prog_4_method_5_code
def zy_R_readPiece : MethodName := ⟨zR_R, "readPiece", "()V"⟩
abbrev zb_R_readNewName : ByteArray := prog_4_method_6_code
def zy_R_readNewName : MethodName := ⟨zR_R, "readNewName", "()V"⟩
abbrev zb_R_readSquare : ByteArray := prog_4_method_7_code
def zy_R_readSquare : MethodName := ⟨zR_R, "readSquare", "()I"⟩
abbrev zb_R_readTest : ByteArray := prog_4_method_8_code
def zy_R_readTest : MethodName := ⟨zR_R, "readTest", "(I)V"⟩
abbrev zb_R_readFact : ByteArray := prog_4_method_9_code
def zy_R_readFact : MethodName := ⟨zR_R, "readFact", "(I)V"⟩
abbrev zb_R_readSees : ByteArray := prog_4_method_10_code
def zy_R_readSees : MethodName := ⟨zR_R, "readSees", "()V"⟩
abbrev zb_R_findSeenEyes : ByteArray := prog_4_method_11_code
def zy_R_findSeenEyes : MethodName := ⟨zR_R, "findSeenEyes", "()V"⟩
abbrev zb_R_colourOf : ByteArray := prog_4_method_12_code
def zy_R_colourOf : MethodName := ⟨zR_R, "colourOf", "(I)I"⟩
abbrev zb_R_choose : ByteArray := prog_4_method_13_code
def zy_R_choose : MethodName := ⟨zR_R, "choose", "(II)I"⟩
abbrev zb_R_readNumber : ByteArray := prog_4_method_14_code
def zy_R_readNumber : MethodName := ⟨zR_R, "readNumber", "(II)I"⟩
abbrev zb_R_isWord : ByteArray := prog_4_method_15_code
def zy_R_isWord : MethodName := ⟨zR_R, "isWord", "(I)Z"⟩
abbrev zb_R_isSign : ByteArray := prog_4_method_16_code
def zy_R_isSign : MethodName := ⟨zR_R, "isSign", "(I)Z"⟩
abbrev zb_R_expect : ByteArray := prog_4_method_17_code
def zy_R_expect : MethodName := ⟨zR_R, "expect", "(I)V"⟩
abbrev zb_R_expectSign : ByteArray := prog_4_method_18_code
def zy_R_expectSign : MethodName := ⟨zR_R, "expectSign", "(I)V"⟩
abbrev zb_R_advance : ByteArray := prog_4_method_19_code
def zy_R_advance : MethodName := ⟨zR_R, "advance", "()V"⟩
abbrev zb_R_refuseToken : ByteArray := prog_4_method_20_code
def zy_R_refuseToken : MethodName := ⟨zR_R, "refuseToken", "()V"⟩
abbrev zb_R_refuse : ByteArray := prog_4_method_21_code
def zy_R_refuse : MethodName := ⟨zR_R, "refuse", "(II)V"⟩
abbrev zb_S_init : ByteArray := prog_5_method_1_code
def zy_S_init : MethodName := ⟨zR_S, "<init>", "()V"⟩
abbrev zb_T_init : ByteArray := prog_6_method_1_code
def zy_T_init : MethodName := ⟨zR_T, "<init>", "()V"⟩
abbrev zb_T_clear : ByteArray := prog_6_method_2_code
def zy_T_clear : MethodName := ⟨zR_T, "clear", "()V"⟩
abbrev zb_T_resize : ByteArray := prog_6_method_3_code
def zy_T_resize : MethodName := ⟨zR_T, "resize", "(II)V"⟩
abbrev zb_T_add : ByteArray := prog_6_method_4_code
def zy_T_add : MethodName := ⟨zR_T, "add", "(IIII)V"⟩
abbrev zb_T_groupOf : ByteArray := prog_6_method_5_code
def zy_T_groupOf : MethodName := ⟨zR_T, "groupOf", "(I)I"⟩
abbrev zb_T_isFull : ByteArray := prog_6_method_6_code
def zy_T_isFull : MethodName := ⟨zR_T, "isFull", "(I)Z"⟩
abbrev zb_T_put : ByteArray := prog_6_method_7_code
def zy_T_put : MethodName := ⟨zR_T, "put", "(II)V"⟩
abbrev zb_T_squareAt : ByteArray := prog_6_method_9_code
def zy_T_squareAt : MethodName := ⟨zR_T, "squareAt", "(II)I"⟩
abbrev zb_T_pieceOf : ByteArray := prog_6_method_13_code
def zy_T_pieceOf : MethodName := ⟨zR_T, "pieceOf", "(II)I"⟩
abbrev zb_T_squareOf : ByteArray := prog_6_method_14_code
def zy_T_squareOf : MethodName := ⟨zR_T, "squareOf", "(II)I"⟩
abbrev zb_T_lookNow : ByteArray := prog_6_method_15_code
def zy_T_lookNow : MethodName := ⟨zR_T, "lookNow", "(III)I"⟩
abbrev zb_T_eyeNamed : ByteArray := prog_6_method_16_code
def zy_T_eyeNamed : MethodName := ⟨zR_T, "eyeNamed", "(I)I"⟩
abbrev zb_T_addCode : ByteArray := prog_6_method_18_code
def zy_T_addCode : MethodName := ⟨zR_T, "addCode", "(I)V"⟩
abbrev zb_T_codeOfSees : ByteArray := prog_6_method_20_code
def zy_T_codeOfSees : MethodName := ⟨zR_T, "codeOfSees", "(II)I"⟩
abbrev zb_K_init : ByteArray := prog_7_method_1_code
def zy_K_init : MethodName := ⟨zR_K, "<init>", "()V"⟩
abbrev zb_K_split : ByteArray := prog_7_method_2_code
def zy_K_split : MethodName := ⟨zR_K, "split", "([II)V"⟩
abbrev zb_K_addWordOrNumber : ByteArray := prog_7_method_3_code
def zy_K_addWordOrNumber : MethodName := ⟨zR_K, "addWordOrNumber", "(II)V"⟩
abbrev zb_K_put : ByteArray := prog_7_method_4_code
def zy_K_put : MethodName := ⟨zR_K, "put", "(IIII)V"⟩
abbrev zb_K_packed : ByteArray := prog_7_method_5_code
def zy_K_packed : MethodName := ⟨zR_K, "packed", "(IIII)I"⟩
abbrev zb_K_ownWord : ByteArray := prog_7_method_6_code
def zy_K_ownWord : MethodName := ⟨zR_K, "ownWord", "(II)I"⟩
abbrev zb_K_isLikeFirst : ByteArray := prog_7_method_7_code
def zy_K_isLikeFirst : MethodName := ⟨zR_K, "isLikeFirst", "(II)Z"⟩
abbrev zb_K_isLetter : ByteArray := prog_7_method_8_code
def zy_K_isLetter : MethodName := ⟨zR_K, "isLetter", "(I)Z"⟩
abbrev zb_K_isDigit : ByteArray := prog_7_method_9_code
def zy_K_isDigit : MethodName := ⟨zR_K, "isDigit", "(I)Z"⟩
abbrev zb_B_init : ByteArray := prog_1_method_1_code
def zy_B_init : MethodName := ⟨zR_B, "<init>", "()V"⟩
abbrev zb_B_feed : ByteArray := prog_1_method_2_code
def zy_B_feed : MethodName := ⟨zR_B, "feed", "(IIIII)I"⟩
abbrev zb_B_putOnTape : ByteArray := prog_1_method_3_code
def zy_B_putOnTape : MethodName := ⟨zR_B, "putOnTape", "(I)V"⟩
abbrev zb_B_end : ByteArray := prog_1_method_4_code
def zy_B_end : MethodName := ⟨zR_B, "end", "(I)Z"⟩
abbrev zb_B_board : ByteArray := prog_1_method_5_code
def zy_B_board : MethodName := ⟨zR_B, "board", "()I"⟩
abbrev zb_B_has : ByteArray := prog_1_method_7_code
def zy_B_has : MethodName := ⟨zR_B, "has", "(I)I"⟩
abbrev zb_B_square : ByteArray := prog_1_method_9_code
def zy_B_square : MethodName := ⟨zR_B, "square", "(III)I"⟩
abbrev zb_B_light : ByteArray := prog_1_method_14_code
def zy_B_light : MethodName := ⟨zR_B, "light", "(III)I"⟩
abbrev zb_B_sees : ByteArray := prog_1_method_16_code
def zy_B_sees : MethodName := ⟨zR_B, "sees", "(I)I"⟩
abbrev zb_B_behind : ByteArray := prog_1_method_35_code
def zy_B_behind : MethodName := ⟨zR_B, "behind", "(I)I"⟩
abbrev zb_B_isNumber : ByteArray := prog_1_method_45_code
def zy_B_isNumber : MethodName := ⟨zR_B, "isNumber", "(II)Z"⟩
abbrev zb_B_lightNow : ByteArray := prog_1_method_51_code
def zy_B_lightNow : MethodName := ⟨zR_B, "lightNow", "()LBeamBoard$Light;"⟩
abbrev zb_B_lightOf : ByteArray := prog_1_method_52_code
def zy_B_lightOf : MethodName := ⟨zR_B, "lightOf", "(II)LBeamBoard$Light;"⟩
abbrev zb_JB_init : ByteArray := prog_10_method_2_code
def zy_JB_init : MethodName := ⟨zR_JB, "<init>", "(I)V"⟩
abbrev zb_JB_init_a7421 : ByteArray := prog_10_method_3_code
def zy_JB_init_a7421 : MethodName := ⟨zR_JB, "<init>", "(Ljava/lang/String;)V"⟩
abbrev zb_JB_length : ByteArray := prog_10_method_6_code
def zy_JB_length : MethodName := ⟨zR_JB, "length", "()I"⟩
abbrev zb_JB_ensureCapacityInternal : ByteArray := prog_10_method_9_code
def zy_JB_ensureCapacityInternal : MethodName := ⟨zR_JB, "ensureCapacityInternal", "(I)V"⟩
abbrev zb_JB_newCapacity : ByteArray := prog_10_method_10_code
def zy_JB_newCapacity : MethodName := ⟨zR_JB, "newCapacity", "(I)I"⟩
abbrev zb_JB_inflate : ByteArray := prog_10_method_11_code
def zy_JB_inflate : MethodName := ⟨zR_JB, "inflate", "()V"⟩
abbrev zb_JB_append : ByteArray := prog_10_method_22_code
def zy_JB_append : MethodName := ⟨zR_JB, "append", "(Ljava/lang/String;)Ljava/lang/AbstractStringBuilder;"⟩
abbrev zb_JB_appendNull : ByteArray := prog_10_method_26_code
def zy_JB_appendNull : MethodName := ⟨zR_JB, "appendNull", "()Ljava/lang/AbstractStringBuilder;"⟩
abbrev zb_JB_append_3fe6f : ByteArray := prog_10_method_31_code
def zy_JB_append_3fe6f : MethodName := ⟨zR_JB, "append", "(C)Ljava/lang/AbstractStringBuilder;"⟩
abbrev zb_JB_append_c97b9 : ByteArray := prog_10_method_32_code
def zy_JB_append_c97b9 : MethodName := ⟨zR_JB, "append", "(I)Ljava/lang/AbstractStringBuilder;"⟩
abbrev zb_JB_getValue : ByteArray := prog_10_method_64_code
def zy_JB_getValue : MethodName := ⟨zR_JB, "getValue", "()[B"⟩
abbrev zb_JB_isLatin1 : ByteArray := prog_10_method_68_code
def zy_JB_isLatin1 : MethodName := ⟨zR_JB, "isLatin1", "()Z"⟩
abbrev zb_JB_inflateIfNeededFor : ByteArray := prog_10_method_71_code
def zy_JB_inflateIfNeededFor : MethodName := ⟨zR_JB, "inflateIfNeededFor", "(Ljava/lang/String;)V"⟩
abbrev zb_JB_putStringAt : ByteArray := prog_10_method_73_code
def zy_JB_putStringAt : MethodName := ⟨zR_JB, "putStringAt", "(ILjava/lang/String;)V"⟩
abbrev zb_JI_getChars : ByteArray := prog_12_method_12_code
def zy_JI_getChars : MethodName := ⟨zR_JI, "getChars", "(II[B)I"⟩
abbrev zb_JI_stringSize : ByteArray := prog_12_method_13_code
def zy_JI_stringSize : MethodName := ⟨zR_JI, "stringSize", "(I)I"⟩
abbrev zb_JM_floorMod : ByteArray := prog_13_method_50_code
def zy_JM_floorMod : MethodName := ⟨zR_JM, "floorMod", "(II)I"⟩
abbrev zb_JM_max : ByteArray := prog_13_method_65_code
def zy_JM_max : MethodName := ⟨zR_JM, "max", "(II)I"⟩
abbrev zb_JM_min : ByteArray := prog_13_method_69_code
def zy_JM_min : MethodName := ⟨zR_JM, "min", "(II)I"⟩
abbrev zb_JS_init : ByteArray := prog_15_method_53_code
def zy_JS_init : MethodName := ⟨zR_JS, "<init>", "(Ljava/lang/StringBuilder;)V"⟩
abbrev zb_JS_length : ByteArray := prog_15_method_54_code
def zy_JS_length : MethodName := ⟨zR_JS, "length", "()I"⟩
abbrev zb_JS_charAt : ByteArray := prog_15_method_56_code
def zy_JS_charAt : MethodName := ⟨zR_JS, "charAt", "(I)C"⟩
abbrev zb_JS_getBytes : ByteArray := prog_15_method_147_code
def zy_JS_getBytes : MethodName := ⟨zR_JS, "getBytes", "([BIB)V"⟩
abbrev zb_JS_init_db425 : ByteArray := prog_15_method_150_code
def zy_JS_init_db425 : MethodName := ⟨zR_JS, "<init>", "(Ljava/lang/AbstractStringBuilder;Ljava/lang/Void;)V"⟩
abbrev zb_JS_coder : ByteArray := prog_15_method_152_code
def zy_JS_coder : MethodName := ⟨zR_JS, "coder", "()B"⟩
abbrev zb_JS_isLatin1 : ByteArray := prog_15_method_154_code
def zy_JS_isLatin1 : MethodName := ⟨zR_JS, "isLatin1", "()Z"⟩
abbrev zb_JS_checkIndex : ByteArray := prog_15_method_155_code
def zy_JS_checkIndex : MethodName := ⟨zR_JS, "checkIndex", "(II)V"⟩
abbrev zb_JS_checkBoundsOffCount : ByteArray := prog_15_method_157_code
def zy_JS_checkBoundsOffCount : MethodName := ⟨zR_JS, "checkBoundsOffCount", "(III)I"⟩
abbrev zb_JS_checkBoundsBeginEnd : ByteArray := prog_15_method_158_code
def zy_JS_checkBoundsBeginEnd : MethodName := ⟨zR_JS, "checkBoundsBeginEnd", "(III)V"⟩
abbrev zb_JD_init : ByteArray := prog_16_method_1_code
def zy_JD_init : MethodName := ⟨zR_JD, "<init>", "()V"⟩
abbrev zb_JD_init_a7421 : ByteArray := prog_16_method_3_code
def zy_JD_init_a7421 : MethodName := ⟨zR_JD, "<init>", "(Ljava/lang/String;)V"⟩
abbrev zb_JD_append : ByteArray := prog_16_method_7_code
def zy_JD_append : MethodName := ⟨zR_JD, "append", "(Ljava/lang/String;)Ljava/lang/StringBuilder;"⟩
abbrev zb_JD_append_cf468 : ByteArray := prog_16_method_14_code
def zy_JD_append_cf468 : MethodName := ⟨zR_JD, "append", "(C)Ljava/lang/StringBuilder;"⟩
abbrev zb_JD_append_bf812 : ByteArray := prog_16_method_15_code
def zy_JD_append_bf812 : MethodName := ⟨zR_JD, "append", "(I)Ljava/lang/StringBuilder;"⟩
abbrev zb_JD_toString : ByteArray := prog_16_method_42_code
def zy_JD_toString : MethodName := ⟨zR_JD, "toString", "()Ljava/lang/String;"⟩
abbrev zb_JD_append_cf1ce : ByteArray := prog_16_method_80_code
def zy_JD_append_cf1ce : MethodName := ⟨zR_JD, "append", "(Ljava/lang/String;)Ljava/lang/AbstractStringBuilder;"⟩
abbrev zb_JD_length : ByteArray := prog_16_method_93_code
def zy_JD_length : MethodName := ⟨zR_JD, "length", "()I"⟩
abbrev zb_JL_charAt : ByteArray := prog_17_method_2_code
def zy_JL_charAt : MethodName := ⟨zR_JL, "charAt", "([BI)C"⟩
abbrev zb_JL_canEncode : ByteArray := prog_17_method_3_code
def zy_JL_canEncode : MethodName := ⟨zR_JL, "canEncode", "(C)Z"⟩
abbrev zb_JL_inflate : ByteArray := prog_17_method_50_code
def zy_JL_inflate : MethodName := ⟨zR_JL, "inflate", "([BI[BII)V"⟩
abbrev zb_JU_newBytesFor : ByteArray := prog_18_method_2_code
def zy_JU_newBytesFor : MethodName := ⟨zR_JU, "newBytesFor", "(I)[B"⟩
abbrev zb_JU_newBytesLength : ByteArray := prog_18_method_3_code
def zy_JU_newBytesLength : MethodName := ⟨zR_JU, "newBytesLength", "(I)I"⟩
abbrev zb_JU_putChar : ByteArray := prog_18_method_4_code
def zy_JU_putChar : MethodName := ⟨zR_JU, "putChar", "([BII)V"⟩
abbrev zb_JU_getChar : ByteArray := prog_18_method_5_code
def zy_JU_getChar : MethodName := ⟨zR_JU, "getChar", "([BI)C"⟩
abbrev zb_JU_length : ByteArray := prog_18_method_6_code
def zy_JU_length : MethodName := ⟨zR_JU, "length", "([B)I"⟩
abbrev zb_JU_coderFromArrayLen : ByteArray := prog_18_method_15_code
def zy_JU_coderFromArrayLen : MethodName := ⟨zR_JU, "coderFromArrayLen", "([BI)B"⟩
abbrev zb_JU_compress : ByteArray := prog_18_method_17_code
def zy_JU_compress : MethodName := ⟨zR_JU, "compress", "([BII)[B"⟩
abbrev zb_JU_compress_5af95 : ByteArray := prog_18_method_22_code
def zy_JU_compress_5af95 : MethodName := ⟨zR_JU, "compress", "([BI[BII)I"⟩
abbrev zb_JU_putCharSB : ByteArray := prog_18_method_71_code
def zy_JU_putCharSB : MethodName := ⟨zR_JU, "putCharSB", "([BII)V"⟩
abbrev zb_JU_getChars : ByteArray := prog_18_method_77_code
def zy_JU_getChars : MethodName := ⟨zR_JU, "getChars", "(III[B)I"⟩
abbrev zb_JU_putCharsAt : ByteArray := prog_18_method_81_code
def zy_JU_putCharsAt : MethodName := ⟨zR_JU, "putCharsAt", "([BICCCC)I"⟩
abbrev zb_JU_charAt : ByteArray := prog_18_method_83_code
def zy_JU_charAt : MethodName := ⟨zR_JU, "charAt", "([BI)C"⟩
abbrev zb_JU_inflate : ByteArray := prog_18_method_86_code
def zy_JU_inflate : MethodName := ⟨zR_JU, "inflate", "([BI[BII)V"⟩
abbrev zb_JU_getChars_ba4f3 : ByteArray := prog_18_method_89_code
def zy_JU_getChars_ba4f3 : MethodName := ⟨zR_JU, "getChars", "(II[B)I"⟩
abbrev zb_JU_checkIndex : ByteArray := prog_18_method_91_code
def zy_JU_checkIndex : MethodName := ⟨zR_JU, "checkIndex", "(I[B)V"⟩
abbrev zb_JU_checkBoundsBeginEnd : ByteArray := prog_18_method_93_code
def zy_JU_checkBoundsBeginEnd : MethodName := ⟨zR_JU, "checkBoundsBeginEnd", "(II[B)V"⟩
abbrev zb_JU_checkBoundsOffCount : ByteArray := prog_18_method_94_code
def zy_JU_checkBoundsOffCount : MethodName := ⟨zR_JU, "checkBoundsOffCount", "(II[B)V"⟩
abbrev zb_JA_fill : ByteArray := prog_20_method_103_code
def zy_JA_fill : MethodName := ⟨zR_JA, "fill", "([II)V"⟩
abbrev zb_JA_copyOf : ByteArray := prog_20_method_121_code
def zy_JA_copyOf : MethodName := ⟨zR_JA, "copyOf", "([BI)[B"⟩
abbrev zb_JA_checkLength : ByteArray := prog_20_method_131_code
def zy_JA_checkLength : MethodName := ⟨zR_JA, "checkLength", "(II)V"⟩
abbrev zb_JA_copyOfRange : ByteArray := prog_20_method_132_code
def zy_JA_copyOfRange : MethodName := ⟨zR_JA, "copyOfRange", "([BII)[B"⟩
abbrev zb_JA_copyOfRangeByte : ByteArray := prog_20_method_133_code
def zy_JA_copyOfRangeByte : MethodName := ⟨zR_JA, "copyOfRangeByte", "([BII)[B"⟩
abbrev zb_JV_newLength : ByteArray := prog_21_method_27_code
def zy_JV_newLength : MethodName := ⟨zR_JV, "newLength", "(III)I"⟩
abbrev zb_JV_hugeLength : ByteArray := prog_21_method_28_code
def zy_JV_hugeLength : MethodName := ⟨zR_JV, "hugeLength", "(II)I"⟩
abbrev zb_JP_checkIndex : ByteArray := prog_22_method_11_code
def zy_JP_checkIndex : MethodName := ⟨zR_JP, "checkIndex", "(IILjava/util/function/BiFunction;)I"⟩
abbrev zb_JP_checkFromToIndex : ByteArray := prog_22_method_12_code
def zy_JP_checkFromToIndex : MethodName := ⟨zR_JP, "checkFromToIndex", "(IIILjava/util/function/BiFunction;)I"⟩
abbrev zb_JP_checkFromIndexSize : ByteArray := prog_22_method_13_code
def zy_JP_checkFromIndexSize : MethodName := ⟨zR_JP, "checkFromIndexSize", "(IIILjava/util/function/BiFunction;)I"⟩
abbrev zb_W_pick : ByteArray := method_2_code
def zy_W_pick : MethodName := ⟨zR_W, "pick", "([II)I"⟩
abbrev zb_W_pick_ : ByteArray := method_3_code
def zy_W_pick_ : MethodName := ⟨zR_W, "pick", "([III)I"⟩
abbrev zb_W_feed : ByteArray := method_4_code
def zy_W_feed : MethodName := ⟨zR_W, "feed", "(LBeamBoard;Ljava/lang/String;)Z"⟩
abbrev zb_W_squares : ByteArray := method_5_code
def zy_W_squares : MethodName := ⟨zR_W, "squares", "([IIIZ)[[I"⟩
abbrev zb_W_colour : ByteArray := method_6_code
def zy_W_colour : MethodName := ⟨zR_W, "colour", "(I)Ljava/lang/String;"⟩
abbrev zb_W_text : ByteArray := method_7_code
def zy_W_text : MethodName := ⟨zR_W, "text", "([[III[Ljava/lang/String;)Ljava/lang/String;"⟩
abbrev zb_W_many : ByteArray := method_8_code
def zy_W_many : MethodName := ⟨zR_W, "many", "([[III)I"⟩
abbrev zb_W_law : ByteArray := code
def zy_W_law : MethodName := ⟨zR_W, "law", "([I)Z"⟩
