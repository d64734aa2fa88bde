section
-- ===== PART A: goes FIRST, ahead of the names: the tables' words, and 'selects' of the private methods out of them =====
/-- a private method of a class that the tables say can be made, by its rows of tables_1 -/
def lw_okq (q : MethodName × Nat) : Prop := (q.1.cls ≠ "java/lang/invoke/MethodHandle" ∧ q.1.cls ≠ "java/lang/invoke/VarHandle") ∧ Cond.instantiable q.1.cls q.2 ∈ tables_1 ∧ Cond.privateMethod q.1 ∈ tables_1 ∧ Cond.instanceMethod q.1 ∈ tables_1
theorem lw_p0 : lw_okq (⟨"StairsNear$Ring", "listDegree", "(I)V"⟩, 7) := ⟨⟨by decide +kernel, by decide +kernel⟩, List.mem_of_getElem? (i := 32) (by decide +kernel), List.mem_of_getElem? (i := 62) (by decide +kernel), List.mem_of_getElem? (i := 63) (by decide +kernel)⟩
theorem lw_p1 : lw_okq (⟨"StairsNear$Ring", "linkProducts", "(I)V"⟩, 7) := ⟨⟨by decide +kernel, by decide +kernel⟩, List.mem_of_getElem? (i := 32) (by decide +kernel), List.mem_of_getElem? (i := 77) (by decide +kernel), List.mem_of_getElem? (i := 78) (by decide +kernel)⟩
theorem lw_p2 : lw_okq (⟨"StairsNear", "forgetWhatWasWorkedOut", "()V"⟩, 11) := ⟨⟨by decide +kernel, by decide +kernel⟩, List.mem_of_getElem? (i := 24) (by decide +kernel), List.mem_of_getElem? (i := 351) (by decide +kernel), List.mem_of_getElem? (i := 352) (by decide +kernel)⟩
theorem lw_p3 : lw_okq (⟨"StairsNear$Poly", "insert", "(III)V"⟩, 3) := ⟨⟨by decide +kernel, by decide +kernel⟩, List.mem_of_getElem? (i := 139) (by decide +kernel), List.mem_of_getElem? (i := 378) (by decide +kernel), List.mem_of_getElem? (i := 379) (by decide +kernel)⟩
theorem lw_p4 : lw_okq (⟨"StairsNear", "held", "(I)I"⟩, 11) := ⟨⟨by decide +kernel, by decide +kernel⟩, List.mem_of_getElem? (i := 24) (by decide +kernel), List.mem_of_getElem? (i := 420) (by decide +kernel), List.mem_of_getElem? (i := 421) (by decide +kernel)⟩
theorem lw_p5 : lw_okq (⟨"StairsNear$Division", "begin", "([LStairsNear$Poly;IILStairsNear$Numbers;)V"⟩, 9) := ⟨⟨by decide +kernel, by decide +kernel⟩, List.mem_of_getElem? (i := 220) (by decide +kernel), List.mem_of_getElem? (i := 428) (by decide +kernel), List.mem_of_getElem? (i := 429) (by decide +kernel)⟩
theorem lw_p6 : lw_okq (⟨"StairsNear$Division", "bestDivisor", "()I"⟩, 9) := ⟨⟨by decide +kernel, by decide +kernel⟩, List.mem_of_getElem? (i := 220) (by decide +kernel), List.mem_of_getElem? (i := 462) (by decide +kernel), List.mem_of_getElem? (i := 463) (by decide +kernel)⟩
theorem lw_p7 : lw_okq (⟨"StairsNear$Division", "stepBy", "(ILStairsNear$Numbers;)Z"⟩, 9) := ⟨⟨by decide +kernel, by decide +kernel⟩, List.mem_of_getElem? (i := 220) (by decide +kernel), List.mem_of_getElem? (i := 471) (by decide +kernel), List.mem_of_getElem? (i := 472) (by decide +kernel)⟩
theorem lw_p8 : lw_okq (⟨"StairsNear$Division", "subtract", "(LStairsNear$Equation;LStairsNear$Numbers;)Z"⟩, 9) := ⟨⟨by decide +kernel, by decide +kernel⟩, List.mem_of_getElem? (i := 220) (by decide +kernel), List.mem_of_getElem? (i := 480) (by decide +kernel), List.mem_of_getElem? (i := 481) (by decide +kernel)⟩
theorem lw_p9 : lw_okq (⟨"StairsNear", "putSpare", "(I)I"⟩, 11) := ⟨⟨by decide +kernel, by decide +kernel⟩, List.mem_of_getElem? (i := 24) (by decide +kernel), List.mem_of_getElem? (i := 515) (by decide +kernel), List.mem_of_getElem? (i := 516) (by decide +kernel)⟩
theorem lw_p10 : lw_okq (⟨"StairsNear$Tape", "ahead", "()I"⟩, 8) := ⟨⟨by decide +kernel, by decide +kernel⟩, List.mem_of_getElem? (i := 169) (by decide +kernel), List.mem_of_getElem? (i := 620) (by decide +kernel), List.mem_of_getElem? (i := 621) (by decide +kernel)⟩
theorem lw_p11 : lw_okq (⟨"StairsNear$Tape", "readSummand", "(ZLStairsNear$Ring;)V"⟩, 8) := ⟨⟨by decide +kernel, by decide +kernel⟩, List.mem_of_getElem? (i := 169) (by decide +kernel), List.mem_of_getElem? (i := 624) (by decide +kernel), List.mem_of_getElem? (i := 625) (by decide +kernel)⟩
theorem lw_p12 : lw_okq (⟨"StairsNear$Tape", "factorIsAhead", "(LStairsNear$Ring;)Z"⟩, 8) := ⟨⟨by decide +kernel, by decide +kernel⟩, List.mem_of_getElem? (i := 169) (by decide +kernel), List.mem_of_getElem? (i := 631) (by decide +kernel), List.mem_of_getElem? (i := 632) (by decide +kernel)⟩
theorem lw_p13 : lw_okq (⟨"StairsNear$Tape", "blame", "(II)V"⟩, 8) := ⟨⟨by decide +kernel, by decide +kernel⟩, List.mem_of_getElem? (i := 169) (by decide +kernel), List.mem_of_getElem? (i := 641) (by decide +kernel), List.mem_of_getElem? (i := 642) (by decide +kernel)⟩
theorem lw_p14 : lw_okq (⟨"StairsNear$Tape", "readFactor", "(LStairsNear$Ring;)V"⟩, 8) := ⟨⟨by decide +kernel, by decide +kernel⟩, List.mem_of_getElem? (i := 169) (by decide +kernel), List.mem_of_getElem? (i := 645) (by decide +kernel), List.mem_of_getElem? (i := 646) (by decide +kernel)⟩
theorem lw_p15 : lw_okq (⟨"StairsNear$Tape", "readDigits", "(I)I"⟩, 8) := ⟨⟨by decide +kernel, by decide +kernel⟩, List.mem_of_getElem? (i := 169) (by decide +kernel), List.mem_of_getElem? (i := 649) (by decide +kernel), List.mem_of_getElem? (i := 650) (by decide +kernel)⟩
def lw_privs_1 : List (MethodName × Nat) := [(⟨"StairsNear$Ring", "listDegree", "(I)V"⟩, 7), (⟨"StairsNear$Ring", "linkProducts", "(I)V"⟩, 7), (⟨"StairsNear", "forgetWhatWasWorkedOut", "()V"⟩, 11), (⟨"StairsNear$Poly", "insert", "(III)V"⟩, 3), (⟨"StairsNear", "held", "(I)I"⟩, 11), (⟨"StairsNear$Division", "begin", "([LStairsNear$Poly;IILStairsNear$Numbers;)V"⟩, 9), (⟨"StairsNear$Division", "bestDivisor", "()I"⟩, 9), (⟨"StairsNear$Division", "stepBy", "(ILStairsNear$Numbers;)Z"⟩, 9), (⟨"StairsNear$Division", "subtract", "(LStairsNear$Equation;LStairsNear$Numbers;)Z"⟩, 9), (⟨"StairsNear", "putSpare", "(I)I"⟩, 11), (⟨"StairsNear$Tape", "ahead", "()I"⟩, 8), (⟨"StairsNear$Tape", "readSummand", "(ZLStairsNear$Ring;)V"⟩, 8), (⟨"StairsNear$Tape", "factorIsAhead", "(LStairsNear$Ring;)Z"⟩, 8), (⟨"StairsNear$Tape", "blame", "(II)V"⟩, 8), (⟨"StairsNear$Tape", "readFactor", "(LStairsNear$Ring;)V"⟩, 8), (⟨"StairsNear$Tape", "readDigits", "(I)I"⟩, 8)]
theorem lw_r1 : ∀ q ∈ lw_privs_1, lw_okq q := List.forall_mem_cons.mpr ⟨lw_p0, List.forall_mem_cons.mpr ⟨lw_p1, List.forall_mem_cons.mpr ⟨lw_p2, List.forall_mem_cons.mpr ⟨lw_p3, List.forall_mem_cons.mpr ⟨lw_p4, List.forall_mem_cons.mpr ⟨lw_p5, List.forall_mem_cons.mpr ⟨lw_p6, List.forall_mem_cons.mpr ⟨lw_p7, List.forall_mem_cons.mpr ⟨lw_p8, List.forall_mem_cons.mpr ⟨lw_p9, List.forall_mem_cons.mpr ⟨lw_p10, List.forall_mem_cons.mpr ⟨lw_p11, List.forall_mem_cons.mpr ⟨lw_p12, List.forall_mem_cons.mpr ⟨lw_p13, List.forall_mem_cons.mpr ⟨lw_p14, List.forall_mem_cons.mpr ⟨lw_p15, fun _ h => absurd h List.not_mem_nil⟩⟩⟩⟩⟩⟩⟩⟩⟩⟩⟩⟩⟩⟩⟩⟩
theorem lw_p16 : lw_okq (⟨"StairsNear$Tape", "readPower", "(I)V"⟩, 8) := ⟨⟨by decide +kernel, by decide +kernel⟩, List.mem_of_getElem? (i := 169) (by decide +kernel), List.mem_of_getElem? (i := 658) (by decide +kernel), List.mem_of_getElem? (i := 659) (by decide +kernel)⟩
theorem lw_p17 : lw_okq (⟨"StairsNear", "multiply", "(LStairsNear$Poly;LStairsNear$Poly;)Z"⟩, 11) := ⟨⟨by decide +kernel, by decide +kernel⟩, List.mem_of_getElem? (i := 24) (by decide +kernel), List.mem_of_getElem? (i := 905) (by decide +kernel), List.mem_of_getElem? (i := 906) (by decide +kernel)⟩
theorem lw_p18 : lw_okq (⟨"StairsNear", "isBound", "(I)Z"⟩, 11) := ⟨⟨by decide +kernel, by decide +kernel⟩, List.mem_of_getElem? (i := 24) (by decide +kernel), List.mem_of_getElem? (i := 919) (by decide +kernel), List.mem_of_getElem? (i := 920) (by decide +kernel)⟩
theorem lw_p19 : lw_okq (⟨"StairsNear", "idealOf", "(I)LStairsNear$Ideal;"⟩, 11) := ⟨⟨by decide +kernel, by decide +kernel⟩, List.mem_of_getElem? (i := 24) (by decide +kernel), List.mem_of_getElem? (i := 923) (by decide +kernel), List.mem_of_getElem? (i := 924) (by decide +kernel)⟩
theorem lw_p20 : lw_okq (⟨"StairsNear", "oldestIdeal", "()LStairsNear$Ideal;"⟩, 11) := ⟨⟨by decide +kernel, by decide +kernel⟩, List.mem_of_getElem? (i := 24) (by decide +kernel), List.mem_of_getElem? (i := 927) (by decide +kernel), List.mem_of_getElem? (i := 928) (by decide +kernel)⟩
theorem lw_p21 : lw_okq (⟨"StairsNear$Ideal", "load", "(LStairsNear$Poly;LStairsNear$Ring;)V"⟩, 4) := ⟨⟨by decide +kernel, by decide +kernel⟩, List.mem_of_getElem? (i := 282) (by decide +kernel), List.mem_of_getElem? (i := 938) (by decide +kernel), List.mem_of_getElem? (i := 939) (by decide +kernel)⟩
theorem lw_p22 : lw_okq (⟨"StairsNear$Ideal", "insertLine", "(ILStairsNear$Numbers;)V"⟩, 4) := ⟨⟨by decide +kernel, by decide +kernel⟩, List.mem_of_getElem? (i := 282) (by decide +kernel), List.mem_of_getElem? (i := 943) (by decide +kernel), List.mem_of_getElem? (i := 944) (by decide +kernel)⟩
theorem lw_p23 : lw_okq (⟨"StairsNear$Ideal", "storeRow", "(IILStairsNear$Numbers;)V"⟩, 4) := ⟨⟨by decide +kernel, by decide +kernel⟩, List.mem_of_getElem? (i := 282) (by decide +kernel), List.mem_of_getElem? (i := 947) (by decide +kernel), List.mem_of_getElem? (i := 948) (by decide +kernel)⟩
theorem lw_p24 : lw_okq (⟨"StairsNear$Ideal", "subtractRow", "(IILStairsNear$Numbers;)V"⟩, 4) := ⟨⟨by decide +kernel, by decide +kernel⟩, List.mem_of_getElem? (i := 282) (by decide +kernel), List.mem_of_getElem? (i := 953) (by decide +kernel), List.mem_of_getElem? (i := 954) (by decide +kernel)⟩
theorem lw_p25 : lw_okq (⟨"StairsNear$Ideal", "loadProduct", "([I[II)V"⟩, 4) := ⟨⟨by decide +kernel, by decide +kernel⟩, List.mem_of_getElem? (i := 282) (by decide +kernel), List.mem_of_getElem? (i := 959) (by decide +kernel), List.mem_of_getElem? (i := 960) (by decide +kernel)⟩
theorem lw_p26 : lw_okq (⟨"StairsNear$Ideal", "markNoCorner", "(I)V"⟩, 4) := ⟨⟨by decide +kernel, by decide +kernel⟩, List.mem_of_getElem? (i := 282) (by decide +kernel), List.mem_of_getElem? (i := 963) (by decide +kernel), List.mem_of_getElem? (i := 964) (by decide +kernel)⟩
theorem lw_p27 : lw_okq (⟨"StairsNear$Text", "put", "(I)V"⟩, 2) := ⟨⟨by decide +kernel, by decide +kernel⟩, List.mem_of_getElem? (i := 205) (by decide +kernel), List.mem_of_getElem? (i := 984) (by decide +kernel), List.mem_of_getElem? (i := 985) (by decide +kernel)⟩
theorem lw_p28 : lw_okq (⟨"StairsNear$Text", "putNumber", "(I)V"⟩, 2) := ⟨⟨by decide +kernel, by decide +kernel⟩, List.mem_of_getElem? (i := 205) (by decide +kernel), List.mem_of_getElem? (i := 989) (by decide +kernel), List.mem_of_getElem? (i := 990) (by decide +kernel)⟩
theorem lw_p29 : lw_okq (⟨"StairsNear$Text", "putPower", "(II)V"⟩, 2) := ⟨⟨by decide +kernel, by decide +kernel⟩, List.mem_of_getElem? (i := 205) (by decide +kernel), List.mem_of_getElem? (i := 994) (by decide +kernel), List.mem_of_getElem? (i := 995) (by decide +kernel)⟩
theorem lw_p30 : lw_okq (⟨"StairsNear$Ideal", "isOf", "(II)Z"⟩, 4) := ⟨⟨by decide +kernel, by decide +kernel⟩, List.mem_of_getElem? (i := 282) (by decide +kernel), List.mem_of_getElem? (i := 1032) (by decide +kernel), List.mem_of_getElem? (i := 1033) (by decide +kernel)⟩
def lw_privs_2 : List (MethodName × Nat) := [(⟨"StairsNear$Tape", "readPower", "(I)V"⟩, 8), (⟨"StairsNear", "multiply", "(LStairsNear$Poly;LStairsNear$Poly;)Z"⟩, 11), (⟨"StairsNear", "isBound", "(I)Z"⟩, 11), (⟨"StairsNear", "idealOf", "(I)LStairsNear$Ideal;"⟩, 11), (⟨"StairsNear", "oldestIdeal", "()LStairsNear$Ideal;"⟩, 11), (⟨"StairsNear$Ideal", "load", "(LStairsNear$Poly;LStairsNear$Ring;)V"⟩, 4), (⟨"StairsNear$Ideal", "insertLine", "(ILStairsNear$Numbers;)V"⟩, 4), (⟨"StairsNear$Ideal", "storeRow", "(IILStairsNear$Numbers;)V"⟩, 4), (⟨"StairsNear$Ideal", "subtractRow", "(IILStairsNear$Numbers;)V"⟩, 4), (⟨"StairsNear$Ideal", "loadProduct", "([I[II)V"⟩, 4), (⟨"StairsNear$Ideal", "markNoCorner", "(I)V"⟩, 4), (⟨"StairsNear$Text", "put", "(I)V"⟩, 2), (⟨"StairsNear$Text", "putNumber", "(I)V"⟩, 2), (⟨"StairsNear$Text", "putPower", "(II)V"⟩, 2), (⟨"StairsNear$Ideal", "isOf", "(II)Z"⟩, 4)]
theorem lw_r2 : ∀ q ∈ lw_privs_2, lw_okq q := List.forall_mem_cons.mpr ⟨lw_p16, List.forall_mem_cons.mpr ⟨lw_p17, List.forall_mem_cons.mpr ⟨lw_p18, List.forall_mem_cons.mpr ⟨lw_p19, List.forall_mem_cons.mpr ⟨lw_p20, List.forall_mem_cons.mpr ⟨lw_p21, List.forall_mem_cons.mpr ⟨lw_p22, List.forall_mem_cons.mpr ⟨lw_p23, List.forall_mem_cons.mpr ⟨lw_p24, List.forall_mem_cons.mpr ⟨lw_p25, List.forall_mem_cons.mpr ⟨lw_p26, List.forall_mem_cons.mpr ⟨lw_p27, List.forall_mem_cons.mpr ⟨lw_p28, List.forall_mem_cons.mpr ⟨lw_p29, List.forall_mem_cons.mpr ⟨lw_p30, fun _ h => absurd h List.not_mem_nil⟩⟩⟩⟩⟩⟩⟩⟩⟩⟩⟩⟩⟩⟩⟩
def lw_privs : List (MethodName × Nat) := lw_privs_1 ++ (lw_privs_2)
def lw_tbl : List Cond := k2_sels lw_privs ++ tables_1
theorem lw_privs_ok : ∀ q ∈ lw_privs, lw_okq q := by
  show ∀ q ∈ lw_privs_1 ++ (lw_privs_2), lw_okq q
  exact List.forall_mem_append.mpr ⟨lw_r1, lw_r2⟩

-- names, printed by the kit's program out of the class files
/-! ===== BEGIN words of one list among another's, by their places ===== -/
theorem goodIn_r {big : List Cond} (ws : List Cond) (ps : List Nat) (hp : ws = ps.filterMap (fun i => big[i]?)) (h : ws.all goodWord = true) : GoodIn big ws := by
  intro w hw
  have h1 := List.all_eq_true.mp h w hw
  rw [hp] at hw
  obtain ⟨i, -, hi⟩ := List.mem_filterMap.mp hw
  have hm : w ∈ big := by first | exact List.mem_of_getElem? hi | exact List.getElem?_mem hi
  exact ⟨hm, good_of_word h1⟩
theorem goodIn_app {big a b : List Cond} (ha : GoodIn big a) (hb : GoodIn big b) : GoodIn big (a ++ b) := fun w h => (List.mem_append.mp h).elim (ha w) (hb w)
theorem goodIn_ca {big a b : List Cond} {c : Cond} (ha : GoodIn big (c :: a)) (hb : GoodIn big b) : GoodIn big (c :: (a ++ b)) := fun w h => (List.mem_cons.mp h).elim (fun e => ha w (List.mem_cons.mpr (Or.inl e))) (fun h => (List.mem_append.mp h).elim (fun h => ha w (List.mem_cons.mpr (Or.inr h))) (hb w))
theorem goodIn_sub {big ws : List Cond} (hm : ∀ w ∈ ws, w ∈ big) (h : ws.all goodWord = true) : GoodIn big ws := fun w hw => ⟨hm w hw, good_of_word (List.all_eq_true.mp h w hw)⟩
/-! ===== END ===== -/
def RX0 : String := "StairsNear$Division"
def TX0 : u_T := fun k => match k with
  | 0 => ("StairsNear$Division", "stands", "Z", false)
  | 1 => ("StairsNear$Division", "set", "I", false)
  | 2 => ("StairsNear$Division", "slot", "I", false)
  | 3 => ("StairsNear$Division", "steps", "I", false)
  | 4 => ("StairsNear$Division", "divisors", "I", false)
  | 5 => ("StairsNear$Division", "equations", "[LStairsNear$Equation;", true)
  | 6 => ("StairsNear$Division", "told", "[[I", true)
  | 7 => ("StairsNear$Division", "now", "LStairsNear$Equation;", false)
  | _ => ("StairsNear$Division", "after", "LStairsNear$Equation;", false)
def tyX0 : Nat → FieldType := fun k => match k with
  | 0 => .boolean
  | 1 => .int
  | 2 => .int
  | 3 => .int
  | 4 => .int
  | 5 => .array (.object "StairsNear$Equation")
  | 6 => .array (.array .int)
  | 7 => .object "StairsNear$Equation"
  | _ => .object "StairsNear$Equation"
abbrev wsX00 : List Cond := u_ws RX0 TX0 9
theorem nmX0 : ∀ a, a < 9 → ∀ b, b < 9 → a ≠ b → (TX0 a).2.1 ≠ (TX0 b).2.1 := by decide +kernel
theorem tyX0_ok : ∀ k, k < 9 → parseFieldDescriptor (TX0 k).2.2.1 = some (tyX0 k) := by decide +kernel
abbrev cX0_init : ByteArray := prog_2_method_1_code
def yX0_init : MethodName := ⟨RX0, "<init>", "()V"⟩
abbrev cX0_divide : ByteArray := prog_2_method_2_code
def yX0_divide : MethodName := ⟨RX0, "divide", "([LStairsNear$Poly;IILStairsNear$Numbers;)I"⟩
abbrev cX0_keptOne : ByteArray := prog_2_method_3_code
def yX0_keptOne : MethodName := ⟨RX0, "keptOne", "(I)LStairsNear$Poly;"⟩
abbrev cX0_tellStep : ByteArray := prog_2_method_4_code
def yX0_tellStep : MethodName := ⟨RX0, "tellStep", "(II)I"⟩
abbrev cX0_tellWhole : ByteArray := prog_2_method_5_code
def yX0_tellWhole : MethodName := ⟨RX0, "tellWhole", "(I)I"⟩
abbrev cX0_begin : ByteArray := prog_2_method_6_code
def yX0_begin : MethodName := ⟨RX0, "begin", "([LStairsNear$Poly;IILStairsNear$Numbers;)V"⟩
abbrev cX0_bestDivisor : ByteArray := prog_2_method_7_code
def yX0_bestDivisor : MethodName := ⟨RX0, "bestDivisor", "()I"⟩
abbrev cX0_stepBy : ByteArray := prog_2_method_8_code
def yX0_stepBy : MethodName := ⟨RX0, "stepBy", "(ILStairsNear$Numbers;)Z"⟩
abbrev cX0_subtract : ByteArray := prog_2_method_9_code
def yX0_subtract : MethodName := ⟨RX0, "subtract", "(LStairsNear$Equation;LStairsNear$Numbers;)Z"⟩
def RX1 : String := "StairsNear$Equation"
def TX1 : u_T := fun k => match k with
  | 0 => ("StairsNear$Equation", "value", "LStairsNear$Poly;", true)
  | 1 => ("StairsNear$Equation", "unit", "LStairsNear$Poly;", true)
  | _ => ("StairsNear$Equation", "shares", "[LStairsNear$Poly;", true)
def tyX1 : Nat → FieldType := fun k => match k with
  | 0 => .object "StairsNear$Poly"
  | 1 => .object "StairsNear$Poly"
  | _ => .array (.object "StairsNear$Poly")
abbrev wsX10 : List Cond := u_ws RX1 TX1 3
theorem nmX1 : ∀ a, a < 3 → ∀ b, b < 3 → a ≠ b → (TX1 a).2.1 ≠ (TX1 b).2.1 := by decide +kernel
theorem tyX1_ok : ∀ k, k < 3 → parseFieldDescriptor (TX1 k).2.2.1 = some (tyX1 k) := by decide +kernel
abbrev cX1_init : ByteArray := prog_3_method_1_code
def yX1_init : MethodName := ⟨RX1, "<init>", "()V"⟩
abbrev cX1_begin : ByteArray := prog_3_method_2_code
def yX1_begin : MethodName := ⟨RX1, "begin", "(LStairsNear$Poly;)V"⟩
abbrev cX1_become : ByteArray := prog_3_method_3_code
def yX1_become : MethodName := ⟨RX1, "become", "(LStairsNear$Equation;)V"⟩
abbrev cX1_mix : ByteArray := prog_3_method_4_code
def yX1_mix : MethodName := ⟨RX1, "mix", "(LStairsNear$Equation;IILStairsNear$Equation;LStairsNear$Numbers;)Z"⟩
def RX2 : String := "StairsNear$Ideal"
def TX2 : u_T := fun k => match k with
  | 0 => ("StairsNear$Ideal", "set", "I", false)
  | 1 => ("StairsNear$Ideal", "rows", "[[I", true)
  | 2 => ("StairsNear$Ideal", "kinds", "[I", true)
  | _ => ("StairsNear$Ideal", "line", "[I", true)
def tyX2 : Nat → FieldType := fun k => match k with
  | 0 => .int
  | 1 => .array (.array .int)
  | 2 => .array .int
  | _ => .array .int
abbrev wsX20 : List Cond := u_ws RX2 TX2 4
theorem nmX2 : ∀ a, a < 4 → ∀ b, b < 4 → a ≠ b → (TX2 a).2.1 ≠ (TX2 b).2.1 := by decide +kernel
theorem tyX2_ok : ∀ k, k < 4 → parseFieldDescriptor (TX2 k).2.2.1 = some (tyX2 k) := by decide +kernel
abbrev cX2_init : ByteArray := prog_4_method_1_code
def yX2_init : MethodName := ⟨RX2, "<init>", "()V"⟩
abbrev cX2_build : ByteArray := prog_4_method_2_code
def yX2_build : MethodName := ⟨RX2, "build", "([LStairsNear$Poly;ILStairsNear$Ring;)V"⟩
abbrev cX2_count : ByteArray := prog_4_method_3_code
def yX2_count : MethodName := ⟨RX2, "count", "(III)I"⟩
abbrev cX2_leaveOver : ByteArray := prog_4_method_7_code
def yX2_leaveOver : MethodName := ⟨RX2, "leaveOver", "(LStairsNear$Poly;ILStairsNear$Poly;LStairsNear$Ring;)Z"⟩
abbrev cX2_isOf : ByteArray := prog_4_method_8_code
def yX2_isOf : MethodName := ⟨RX2, "isOf", "(II)Z"⟩
abbrev cX2_load : ByteArray := prog_4_method_9_code
def yX2_load : MethodName := ⟨RX2, "load", "(LStairsNear$Poly;LStairsNear$Ring;)V"⟩
abbrev cX2_loadProduct : ByteArray := prog_4_method_10_code
def yX2_loadProduct : MethodName := ⟨RX2, "loadProduct", "([I[II)V"⟩
abbrev cX2_insertLine : ByteArray := prog_4_method_11_code
def yX2_insertLine : MethodName := ⟨RX2, "insertLine", "(ILStairsNear$Numbers;)V"⟩
abbrev cX2_storeRow : ByteArray := prog_4_method_12_code
def yX2_storeRow : MethodName := ⟨RX2, "storeRow", "(IILStairsNear$Numbers;)V"⟩
abbrev cX2_subtractRow : ByteArray := prog_4_method_13_code
def yX2_subtractRow : MethodName := ⟨RX2, "subtractRow", "(IILStairsNear$Numbers;)V"⟩
abbrev cX2_markNoCorner : ByteArray := prog_4_method_14_code
def yX2_markNoCorner : MethodName := ⟨RX2, "markNoCorner", "(I)V"⟩
def RX3 : String := "StairsNear$Mono"
def TX3 : u_T := fun k => match k with
  | _ => ("", "", "", false)
def tyX3 : Nat → FieldType := fun k => match k with
  | _ => .int
abbrev wsX30 : List Cond := u_ws RX3 TX3 0
theorem nmX3 : ∀ a, a < 0 → ∀ b, b < 0 → a ≠ b → (TX3 a).2.1 ≠ (TX3 b).2.1 := by decide +kernel
theorem tyX3_ok : ∀ k, k < 0 → parseFieldDescriptor (TX3 k).2.2.1 = some (tyX3 k) := by decide +kernel
abbrev cX3_degree : ByteArray := prog_5_method_2_code
def yX3_degree : MethodName := ⟨RX3, "degree", "(I)I"⟩
abbrev cX3_exponent : ByteArray := prog_5_method_3_code
def yX3_exponent : MethodName := ⟨RX3, "exponent", "(II)I"⟩
abbrev cX3_of : ByteArray := prog_5_method_4_code
def yX3_of : MethodName := ⟨RX3, "of", "(IIII)I"⟩
abbrev cX3_times : ByteArray := prog_5_method_5_code
def yX3_times : MethodName := ⟨RX3, "times", "(II)I"⟩
abbrev cX3_by : ByteArray := prog_5_method_6_code
def yX3_by : MethodName := ⟨RX3, "by", "(II)I"⟩
abbrev cX3_divides : ByteArray := prog_5_method_7_code
def yX3_divides : MethodName := ⟨RX3, "divides", "(II)Z"⟩
abbrev cX3_isTooHigh : ByteArray := prog_5_method_8_code
def yX3_isTooHigh : MethodName := ⟨RX3, "isTooHigh", "(I)Z"⟩
def RX4 : String := "StairsNear$Numbers"
def TX4 : u_T := fun k => match k with
  | _ => ("StairsNear$Numbers", "prime", "I", true)
def tyX4 : Nat → FieldType := fun k => match k with
  | _ => .int
abbrev wsX40 : List Cond := u_ws RX4 TX4 1
theorem nmX4 : ∀ a, a < 1 → ∀ b, b < 1 → a ≠ b → (TX4 a).2.1 ≠ (TX4 b).2.1 := by decide +kernel
theorem tyX4_ok : ∀ k, k < 1 → parseFieldDescriptor (TX4 k).2.2.1 = some (tyX4 k) := by decide +kernel
abbrev cX4_init : ByteArray := prog_6_method_1_code
def yX4_init : MethodName := ⟨RX4, "<init>", "(I)V"⟩
abbrev cX4_reduced : ByteArray := prog_6_method_2_code
def yX4_reduced : MethodName := ⟨RX4, "reduced", "(I)I"⟩
abbrev cX4_negative : ByteArray := prog_6_method_3_code
def yX4_negative : MethodName := ⟨RX4, "negative", "(I)I"⟩
abbrev cX4_times : ByteArray := prog_6_method_4_code
def yX4_times : MethodName := ⟨RX4, "times", "(II)I"⟩
abbrev cX4_plusTimes : ByteArray := prog_6_method_5_code
def yX4_plusTimes : MethodName := ⟨RX4, "plusTimes", "(III)I"⟩
abbrev cX4_inverse : ByteArray := prog_6_method_6_code
def yX4_inverse : MethodName := ⟨RX4, "inverse", "(I)I"⟩
def RX5 : String := "StairsNear$Poly"
def TX5 : u_T := fun k => match k with
  | 0 => ("StairsNear$Poly", "monos", "[I", true)
  | 1 => ("StairsNear$Poly", "nums", "[I", true)
  | _ => ("StairsNear$Poly", "size", "I", false)
def tyX5 : Nat → FieldType := fun k => match k with
  | 0 => .array .int
  | 1 => .array .int
  | _ => .int
abbrev wsX50 : List Cond := u_ws RX5 TX5 3
theorem nmX5 : ∀ a, a < 3 → ∀ b, b < 3 → a ≠ b → (TX5 a).2.1 ≠ (TX5 b).2.1 := by decide +kernel
theorem tyX5_ok : ∀ k, k < 3 → parseFieldDescriptor (TX5 k).2.2.1 = some (tyX5 k) := by decide +kernel
abbrev cX5_init : ByteArray := prog_7_method_1_code
def yX5_init : MethodName := ⟨RX5, "<init>", "(I)V"⟩
abbrev cX5_clear : ByteArray := prog_7_method_2_code
def yX5_clear : MethodName := ⟨RX5, "clear", "()V"⟩
abbrev cX5_low : ByteArray := prog_7_method_3_code
def yX5_low : MethodName := ⟨RX5, "low", "()I"⟩
abbrev cX5_high : ByteArray := prog_7_method_4_code
def yX5_high : MethodName := ⟨RX5, "high", "()I"⟩
abbrev cX5_ecart : ByteArray := prog_7_method_5_code
def yX5_ecart : MethodName := ⟨RX5, "ecart", "()I"⟩
abbrev cX5_append : ByteArray := prog_7_method_6_code
def yX5_append : MethodName := ⟨RX5, "append", "(II)Z"⟩
abbrev cX5_become : ByteArray := prog_7_method_7_code
def yX5_become : MethodName := ⟨RX5, "become", "(LStairsNear$Poly;)V"⟩
abbrev cX5_becomeNumber : ByteArray := prog_7_method_8_code
def yX5_becomeNumber : MethodName := ⟨RX5, "becomeNumber", "(I)V"⟩
abbrev cX5_mix : ByteArray := prog_7_method_11_code
def yX5_mix : MethodName := ⟨RX5, "mix", "(LStairsNear$Poly;IILStairsNear$Poly;LStairsNear$Numbers;)Z"⟩
abbrev cX5_add : ByteArray := prog_7_method_12_code
def yX5_add : MethodName := ⟨RX5, "add", "(IILStairsNear$Numbers;)V"⟩
abbrev cX5_dropZeros : ByteArray := prog_7_method_13_code
def yX5_dropZeros : MethodName := ⟨RX5, "dropZeros", "()V"⟩
abbrev cX5_reorder : ByteArray := prog_7_method_14_code
def yX5_reorder : MethodName := ⟨RX5, "reorder", "(LStairsNear$Ring;)V"⟩
abbrev cX5_insert : ByteArray := prog_7_method_15_code
def yX5_insert : MethodName := ⟨RX5, "insert", "(III)V"⟩
def RX6 : String := "StairsNear$Ring"
def TX6 : u_T := fun k => match k with
  | 0 => ("StairsNear$Ring", "variables", "I", false)
  | 1 => ("StairsNear$Ring", "numbers", "LStairsNear$Numbers;", false)
  | 2 => ("StairsNear$Ring", "weights", "[I", true)
  | 3 => ("StairsNear$Ring", "monos", "[I", true)
  | 4 => ("StairsNear$Ring", "below", "[I", true)
  | 5 => ("StairsNear$Ring", "next", "[[I", true)
  | _ => ("StairsNear$Ring", "listed", "I", false)
def tyX6 : Nat → FieldType := fun k => match k with
  | 0 => .int
  | 1 => .object "StairsNear$Numbers"
  | 2 => .array .int
  | 3 => .array .int
  | 4 => .array .int
  | 5 => .array (.array .int)
  | _ => .int
abbrev wsX60 : List Cond := u_ws RX6 TX6 7
theorem nmX6 : ∀ a, a < 7 → ∀ b, b < 7 → a ≠ b → (TX6 a).2.1 ≠ (TX6 b).2.1 := by decide +kernel
theorem tyX6_ok : ∀ k, k < 7 → parseFieldDescriptor (TX6 k).2.2.1 = some (tyX6 k) := by decide +kernel
abbrev cX6_init : ByteArray := prog_8_method_1_code
def yX6_init : MethodName := ⟨RX6, "<init>", "()V"⟩
abbrev cX6_bound : ByteArray := prog_8_method_2_code
def yX6_bound : MethodName := ⟨RX6, "bound", "()I"⟩
abbrev cX6_width : ByteArray := prog_8_method_3_code
def yX6_width : MethodName := ⟨RX6, "width", "()I"⟩
abbrev cX6_weigh : ByteArray := prog_8_method_4_code
def yX6_weigh : MethodName := ⟨RX6, "weigh", "(III)V"⟩
abbrev cX6_mono : ByteArray := prog_8_method_6_code
def yX6_mono : MethodName := ⟨RX6, "mono", "(III)I"⟩
abbrev cX6_variable : ByteArray := prog_8_method_7_code
def yX6_variable : MethodName := ⟨RX6, "variable", "(I)I"⟩
abbrev cX6_column : ByteArray := prog_8_method_8_code
def yX6_column : MethodName := ⟨RX6, "column", "(I)I"⟩
abbrev cX6_listDegree : ByteArray := prog_8_method_9_code
def yX6_listDegree : MethodName := ⟨RX6, "listDegree", "(I)V"⟩
abbrev cX6_linkProducts : ByteArray := prog_8_method_10_code
def yX6_linkProducts : MethodName := ⟨RX6, "linkProducts", "(I)V"⟩
def RX7 : String := "StairsNear$Tape"
def TX7 : u_T := fun k => match k with
  | 0 => ("StairsNear$Tape", "bytes", "[I", true)
  | 1 => ("StairsNear$Tape", "size", "I", false)
  | 2 => ("StairsNear$Tape", "fault", "I", false)
  | 3 => ("StairsNear$Tape", "place", "I", false)
  | 4 => ("StairsNear$Tape", "sum", "LStairsNear$Poly;", true)
  | 5 => ("StairsNear$Tape", "at", "I", false)
  | 6 => ("StairsNear$Tape", "num", "I", false)
  | _ => ("StairsNear$Tape", "exponents", "[I", true)
def tyX7 : Nat → FieldType := fun k => match k with
  | 0 => .array .int
  | 1 => .int
  | 2 => .int
  | 3 => .int
  | 4 => .object "StairsNear$Poly"
  | 5 => .int
  | 6 => .int
  | _ => .array .int
abbrev wsX70 : List Cond := u_ws RX7 TX7 8
theorem nmX7 : ∀ a, a < 8 → ∀ b, b < 8 → a ≠ b → (TX7 a).2.1 ≠ (TX7 b).2.1 := by decide +kernel
theorem tyX7_ok : ∀ k, k < 8 → parseFieldDescriptor (TX7 k).2.2.1 = some (tyX7 k) := by decide +kernel
abbrev cX7_init : ByteArray := prog_9_method_1_code
def yX7_init : MethodName := ⟨RX7, "<init>", "()V"⟩
abbrev cX7_take : ByteArray := prog_9_method_2_code
def yX7_take : MethodName := ⟨RX7, "take", "(I)V"⟩
abbrev cX7_clearFault : ByteArray := prog_9_method_3_code
def yX7_clearFault : MethodName := ⟨RX7, "clearFault", "()V"⟩
abbrev cX7_read : ByteArray := prog_9_method_4_code
def yX7_read : MethodName := ⟨RX7, "read", "(LStairsNear$Ring;)V"⟩
abbrev cX7_readSummand : ByteArray := prog_9_method_5_code
def yX7_readSummand : MethodName := ⟨RX7, "readSummand", "(ZLStairsNear$Ring;)V"⟩
abbrev cX7_factorIsAhead : ByteArray := prog_9_method_6_code
def yX7_factorIsAhead : MethodName := ⟨RX7, "factorIsAhead", "(LStairsNear$Ring;)Z"⟩
abbrev cX7_readFactor : ByteArray := prog_9_method_7_code
def yX7_readFactor : MethodName := ⟨RX7, "readFactor", "(LStairsNear$Ring;)V"⟩
abbrev cX7_readPower : ByteArray := prog_9_method_8_code
def yX7_readPower : MethodName := ⟨RX7, "readPower", "(I)V"⟩
abbrev cX7_readDigits : ByteArray := prog_9_method_9_code
def yX7_readDigits : MethodName := ⟨RX7, "readDigits", "(I)I"⟩
abbrev cX7_ahead : ByteArray := prog_9_method_10_code
def yX7_ahead : MethodName := ⟨RX7, "ahead", "()I"⟩
abbrev cX7_blame : ByteArray := prog_9_method_11_code
def yX7_blame : MethodName := ⟨RX7, "blame", "(II)V"⟩
abbrev cX7_isDigit : ByteArray := prog_9_method_12_code
def yX7_isDigit : MethodName := ⟨RX7, "isDigit", "(I)Z"⟩
abbrev cX7_isVariable : ByteArray := prog_9_method_13_code
def yX7_isVariable : MethodName := ⟨RX7, "isVariable", "(ILStairsNear$Ring;)Z"⟩
def RX8 : String := "StairsNear$Text"
def TX8 : u_T := fun k => match k with
  | 0 => ("StairsNear$Text", "bytes", "[I", true)
  | _ => ("StairsNear$Text", "size", "I", false)
def tyX8 : Nat → FieldType := fun k => match k with
  | 0 => .array .int
  | _ => .int
abbrev wsX80 : List Cond := u_ws RX8 TX8 2
theorem nmX8 : ∀ a, a < 2 → ∀ b, b < 2 → a ≠ b → (TX8 a).2.1 ≠ (TX8 b).2.1 := by decide +kernel
theorem tyX8_ok : ∀ k, k < 2 → parseFieldDescriptor (TX8 k).2.2.1 = some (tyX8 k) := by decide +kernel
abbrev cX8_init : ByteArray := prog_10_method_1_code
def yX8_init : MethodName := ⟨RX8, "<init>", "()V"⟩
abbrev cX8_write : ByteArray := prog_10_method_2_code
def yX8_write : MethodName := ⟨RX8, "write", "(LStairsNear$Poly;)V"⟩
abbrev cX8_putPower : ByteArray := prog_10_method_3_code
def yX8_putPower : MethodName := ⟨RX8, "putPower", "(II)V"⟩
abbrev cX8_putNumber : ByteArray := prog_10_method_4_code
def yX8_putNumber : MethodName := ⟨RX8, "putNumber", "(I)V"⟩
abbrev cX8_put : ByteArray := prog_10_method_5_code
def yX8_put : MethodName := ⟨RX8, "put", "(I)V"⟩
def RX9 : String := "StairsNear"
def TX9 : u_T := fun k => match k with
  | 0 => ("StairsNear", "ring", "LStairsNear$Ring;", true)
  | 1 => ("StairsNear", "slots", "[LStairsNear$Poly;", true)
  | 2 => ("StairsNear", "tape", "LStairsNear$Tape;", true)
  | 3 => ("StairsNear", "shown", "LStairsNear$Text;", true)
  | 4 => ("StairsNear", "division", "LStairsNear$Division;", true)
  | 5 => ("StairsNear", "ideals", "[LStairsNear$Ideal;", true)
  | 6 => ("StairsNear", "sources", "[LStairsNear$Poly;", true)
  | 7 => ("StairsNear", "nextIdeal", "I", false)
  | 8 => ("StairsNear", "spare", "LStairsNear$Poly;", false)
  | 9 => ("StairsNear", "product", "LStairsNear$Poly;", false)
  | _ => ("StairsNear", "productSpare", "LStairsNear$Poly;", false)
def tyX9 : Nat → FieldType := fun k => match k with
  | 0 => .object "StairsNear$Ring"
  | 1 => .array (.object "StairsNear$Poly")
  | 2 => .object "StairsNear$Tape"
  | 3 => .object "StairsNear$Text"
  | 4 => .object "StairsNear$Division"
  | 5 => .array (.object "StairsNear$Ideal")
  | 6 => .array (.object "StairsNear$Poly")
  | 7 => .int
  | 8 => .object "StairsNear$Poly"
  | 9 => .object "StairsNear$Poly"
  | _ => .object "StairsNear$Poly"
abbrev wsX90 : List Cond := u_ws RX9 TX9 11
theorem nmX9 : ∀ a, a < 11 → ∀ b, b < 11 → a ≠ b → (TX9 a).2.1 ≠ (TX9 b).2.1 := by decide +kernel
theorem tyX9_ok : ∀ k, k < 11 → parseFieldDescriptor (TX9 k).2.2.1 = some (tyX9 k) := by decide +kernel
abbrev cX9_init : ByteArray := prog_1_method_1_code
def yX9_init : MethodName := ⟨RX9, "<init>", "()V"⟩
abbrev cX9_ring : ByteArray := prog_1_method_2_code
def yX9_ring : MethodName := ⟨RX9, "ring", "(II)Z"⟩
abbrev cX9_weights : ByteArray := prog_1_method_3_code
def yX9_weights : MethodName := ⟨RX9, "weights", "(III)Z"⟩
abbrev cX9_feed : ByteArray := prog_1_method_4_code
def yX9_feed : MethodName := ⟨RX9, "feed", "(IIIII)I"⟩
abbrev cX9_end : ByteArray := prog_1_method_5_code
def yX9_end : MethodName := ⟨RX9, "end", "(I)Z"⟩
abbrev cX9_poly : ByteArray := prog_1_method_6_code
def yX9_poly : MethodName := ⟨RX9, "poly", "(I)I"⟩
abbrev cX9_show : ByteArray := prog_1_method_8_code
def yX9_show : MethodName := ⟨RX9, "show", "(I)I"⟩
abbrev cX9_out : ByteArray := prog_1_method_9_code
def yX9_out : MethodName := ⟨RX9, "out", "(I)I"⟩
abbrev cX9_term : ByteArray := prog_1_method_10_code
def yX9_term : MethodName := ⟨RX9, "term", "(III)I"⟩
abbrev cX9_shape : ByteArray := prog_1_method_11_code
def yX9_shape : MethodName := ⟨RX9, "shape", "(II)I"⟩
abbrev cX9_make : ByteArray := prog_1_method_12_code
def yX9_make : MethodName := ⟨RX9, "make", "(IIII)I"⟩
abbrev cX9_weak : ByteArray := prog_1_method_14_code
def yX9_weak : MethodName := ⟨RX9, "weak", "(II)I"⟩
abbrev cX9_kept : ByteArray := prog_1_method_15_code
def yX9_kept : MethodName := ⟨RX9, "kept", "(II)I"⟩
abbrev cX9_step : ByteArray := prog_1_method_16_code
def yX9_step : MethodName := ⟨RX9, "step", "(II)I"⟩
abbrev cX9_stairs : ByteArray := prog_1_method_19_code
def yX9_stairs : MethodName := ⟨RX9, "stairs", "(III)I"⟩
abbrev cX9_rest : ByteArray := prog_1_method_21_code
def yX9_rest : MethodName := ⟨RX9, "rest", "(IIII)I"⟩
abbrev cX9_look : ByteArray := prog_1_method_25_code
def yX9_look : MethodName := ⟨RX9, "look", "(I)I"⟩
abbrev cX9_polys : ByteArray := prog_1_method_26_code
def yX9_polys : MethodName := ⟨RX9, "polys", "(I)[LStairsNear$Poly;"⟩
abbrev cX9_isPrime : ByteArray := prog_1_method_27_code
def yX9_isPrime : MethodName := ⟨RX9, "isPrime", "(I)Z"⟩
abbrev cX9_isWeight : ByteArray := prog_1_method_28_code
def yX9_isWeight : MethodName := ⟨RX9, "isWeight", "(I)Z"⟩
abbrev cX9_isSlot : ByteArray := prog_1_method_29_code
def yX9_isSlot : MethodName := ⟨RX9, "isSlot", "(I)Z"⟩
abbrev cX9_isSet : ByteArray := prog_1_method_30_code
def yX9_isSet : MethodName := ⟨RX9, "isSet", "(I)Z"⟩
abbrev cX9_isBound : ByteArray := prog_1_method_31_code
def yX9_isBound : MethodName := ⟨RX9, "isBound", "(I)Z"⟩
abbrev cX9_held : ByteArray := prog_1_method_32_code
def yX9_held : MethodName := ⟨RX9, "held", "(I)I"⟩
abbrev cX9_putSpare : ByteArray := prog_1_method_33_code
def yX9_putSpare : MethodName := ⟨RX9, "putSpare", "(I)I"⟩
abbrev cX9_forgetWhatWasWorkedOut : ByteArray := prog_1_method_34_code
def yX9_forgetWhatWasWorkedOut : MethodName := ⟨RX9, "forgetWhatWasWorkedOut", "()V"⟩
abbrev cX9_multiply : ByteArray := prog_1_method_35_code
def yX9_multiply : MethodName := ⟨RX9, "multiply", "(LStairsNear$Poly;LStairsNear$Poly;)Z"⟩
abbrev cX9_oldestIdeal : ByteArray := prog_1_method_36_code
def yX9_oldestIdeal : MethodName := ⟨RX9, "oldestIdeal", "()LStairsNear$Ideal;"⟩
abbrev cX9_idealOf : ByteArray := prog_1_method_37_code
def yX9_idealOf : MethodName := ⟨RX9, "idealOf", "(I)LStairsNear$Ideal;"⟩
abbrev cX9_tellMono : ByteArray := prog_1_method_39_code
def yX9_tellMono : MethodName := ⟨RX9, "tellMono", "(II)I"⟩
def RX10 : String := "StairsNearModel"
def TX10 : u_T := fun k => match k with
  | _ => ("", "", "", false)
def tyX10 : Nat → FieldType := fun k => match k with
  | _ => .int
abbrev wsX100 : List Cond := u_ws RX10 TX10 0
theorem nmX10 : ∀ a, a < 0 → ∀ b, b < 0 → a ≠ b → (TX10 a).2.1 ≠ (TX10 b).2.1 := by decide +kernel
theorem tyX10_ok : ∀ k, k < 0 → parseFieldDescriptor (TX10 k).2.2.1 = some (tyX10 k) := by decide +kernel
def RJx145de : String := "java/io/Serializable"
def TJx145de : u_T := fun k => match k with
  | _ => ("", "", "", false)
def tyJx145de : Nat → FieldType := fun k => match k with
  | _ => .int
theorem nmJx145de : ∀ a, a < 0 → ∀ b, b < 0 → a ≠ b → (TJx145de a).2.1 ≠ (TJx145de b).2.1 := by decide +kernel
theorem tyJx145de_ok : ∀ k, k < 0 → parseFieldDescriptor (TJx145de k).2.2.1 = some (tyJx145de k) := by decide +kernel
def RJ5 : String := "java/lang/AbstractStringBuilder"
def TJ5 : u_T := fun k => match k with
  | _ => ("", "", "", false)
def tyJ5 : Nat → FieldType := fun k => match k with
  | _ => .int
theorem nmJ5 : ∀ a, a < 0 → ∀ b, b < 0 → a ≠ b → (TJ5 a).2.1 ≠ (TJ5 b).2.1 := by decide +kernel
theorem tyJ5_ok : ∀ k, k < 0 → parseFieldDescriptor (TJ5 k).2.2.1 = some (tyJ5 k) := by decide +kernel
abbrev cJ5_init_d00df : ByteArray := prog_13_method_2_code
def yJ5_init_d00df : MethodName := ⟨RJ5, "<init>", "(I)V"⟩
abbrev cJ5_length_8abf5 : ByteArray := prog_13_method_6_code
def yJ5_length_8abf5 : MethodName := ⟨RJ5, "length", "()I"⟩
abbrev cJ5_ensureCapacityInternal_d00df : ByteArray := prog_13_method_9_code
def yJ5_ensureCapacityInternal_d00df : MethodName := ⟨RJ5, "ensureCapacityInternal", "(I)V"⟩
abbrev cJ5_newCapacity_0f7a4 : ByteArray := prog_13_method_10_code
def yJ5_newCapacity_0f7a4 : MethodName := ⟨RJ5, "newCapacity", "(I)I"⟩
abbrev cJ5_inflate_da8c8 : ByteArray := prog_13_method_11_code
def yJ5_inflate_da8c8 : MethodName := ⟨RJ5, "inflate", "()V"⟩
abbrev cJ5_append_cf1ce : ByteArray := prog_13_method_22_code
def yJ5_append_cf1ce : MethodName := ⟨RJ5, "append", "(Ljava/lang/String;)Ljava/lang/AbstractStringBuilder;"⟩
abbrev cJ5_appendNull_278bc : ByteArray := prog_13_method_26_code
def yJ5_appendNull_278bc : MethodName := ⟨RJ5, "appendNull", "()Ljava/lang/AbstractStringBuilder;"⟩
abbrev cJ5_append_3fe6f : ByteArray := prog_13_method_31_code
def yJ5_append_3fe6f : MethodName := ⟨RJ5, "append", "(C)Ljava/lang/AbstractStringBuilder;"⟩
abbrev cJ5_append_c97b9 : ByteArray := prog_13_method_32_code
def yJ5_append_c97b9 : MethodName := ⟨RJ5, "append", "(I)Ljava/lang/AbstractStringBuilder;"⟩
abbrev cJ5_getValue_6d5f1 : ByteArray := prog_13_method_64_code
def yJ5_getValue_6d5f1 : MethodName := ⟨RJ5, "getValue", "()[B"⟩
abbrev cJ5_isLatin1_aae02 : ByteArray := prog_13_method_68_code
def yJ5_isLatin1_aae02 : MethodName := ⟨RJ5, "isLatin1", "()Z"⟩
abbrev cJ5_inflateIfNeededFor_a7421 : ByteArray := prog_13_method_71_code
def yJ5_inflateIfNeededFor_a7421 : MethodName := ⟨RJ5, "inflateIfNeededFor", "(Ljava/lang/String;)V"⟩
abbrev cJ5_putStringAt_47b60 : ByteArray := prog_13_method_73_code
def yJ5_putStringAt_47b60 : MethodName := ⟨RJ5, "putStringAt", "(ILjava/lang/String;)V"⟩
def RJx2cfe8 : String := "java/lang/Appendable"
def TJx2cfe8 : u_T := fun k => match k with
  | _ => ("", "", "", false)
def tyJx2cfe8 : Nat → FieldType := fun k => match k with
  | _ => .int
theorem nmJx2cfe8 : ∀ a, a < 0 → ∀ b, b < 0 → a ≠ b → (TJx2cfe8 a).2.1 ≠ (TJx2cfe8 b).2.1 := by decide +kernel
theorem tyJx2cfe8_ok : ∀ k, k < 0 → parseFieldDescriptor (TJx2cfe8 k).2.2.1 = some (tyJx2cfe8 k) := by decide +kernel
def RJx9f9b0 : String := "java/lang/CharSequence"
def TJx9f9b0 : u_T := fun k => match k with
  | _ => ("", "", "", false)
def tyJx9f9b0 : Nat → FieldType := fun k => match k with
  | _ => .int
theorem nmJx9f9b0 : ∀ a, a < 0 → ∀ b, b < 0 → a ≠ b → (TJx9f9b0 a).2.1 ≠ (TJx9f9b0 b).2.1 := by decide +kernel
theorem tyJx9f9b0_ok : ∀ k, k < 0 → parseFieldDescriptor (TJx9f9b0 k).2.2.1 = some (tyJx9f9b0 k) := by decide +kernel
def RJx8e188 : String := "java/lang/Cloneable"
def TJx8e188 : u_T := fun k => match k with
  | _ => ("", "", "", false)
def tyJx8e188 : Nat → FieldType := fun k => match k with
  | _ => .int
theorem nmJx8e188 : ∀ a, a < 0 → ∀ b, b < 0 → a ≠ b → (TJx8e188 a).2.1 ≠ (TJx8e188 b).2.1 := by decide +kernel
theorem tyJx8e188_ok : ∀ k, k < 0 → parseFieldDescriptor (TJx8e188 k).2.2.1 = some (tyJx8e188 k) := by decide +kernel
def RJxb160c : String := "java/lang/Comparable"
def TJxb160c : u_T := fun k => match k with
  | _ => ("", "", "", false)
def tyJxb160c : Nat → FieldType := fun k => match k with
  | _ => .int
theorem nmJxb160c : ∀ a, a < 0 → ∀ b, b < 0 → a ≠ b → (TJxb160c a).2.1 ≠ (TJxb160c b).2.1 := by decide +kernel
theorem tyJxb160c_ok : ∀ k, k < 0 → parseFieldDescriptor (TJxb160c k).2.2.1 = some (tyJxb160c k) := by decide +kernel
def RJ6 : String := "java/lang/Integer"
def TJ6 : u_T := fun k => match k with
  | _ => ("", "", "", false)
def tyJ6 : Nat → FieldType := fun k => match k with
  | _ => .int
theorem nmJ6 : ∀ a, a < 0 → ∀ b, b < 0 → a ≠ b → (TJ6 a).2.1 ≠ (TJ6 b).2.1 := by decide +kernel
theorem tyJ6_ok : ∀ k, k < 0 → parseFieldDescriptor (TJ6 k).2.2.1 = some (tyJ6 k) := by decide +kernel
abbrev cJ6_getChars_ba4f3 : ByteArray := prog_15_method_12_code
def yJ6_getChars_ba4f3 : MethodName := ⟨RJ6, "getChars", "(II[B)I"⟩
abbrev cJ6_stringSize_0f7a4 : ByteArray := prog_15_method_13_code
def yJ6_stringSize_0f7a4 : MethodName := ⟨RJ6, "stringSize", "(I)I"⟩
abbrev cJ6_bitCount_0f7a4 : ByteArray := prog_15_method_49_code
def yJ6_bitCount_0f7a4 : MethodName := ⟨RJ6, "bitCount", "(I)I"⟩
def RJ9 : String := "java/lang/Math"
def TJ9 : u_T := fun k => match k with
  | _ => ("", "", "", false)
def tyJ9 : Nat → FieldType := fun k => match k with
  | _ => .int
theorem nmJ9 : ∀ a, a < 0 → ∀ b, b < 0 → a ≠ b → (TJ9 a).2.1 ≠ (TJ9 b).2.1 := by decide +kernel
theorem tyJ9_ok : ∀ k, k < 0 → parseFieldDescriptor (TJ9 k).2.2.1 = some (tyJ9 k) := by decide +kernel
abbrev cJ9_max_7cf53 : ByteArray := prog_16_method_65_code
def yJ9_max_7cf53 : MethodName := ⟨RJ9, "max", "(II)I"⟩
abbrev cJ9_min_7cf53 : ByteArray := prog_16_method_69_code
def yJ9_min_7cf53 : MethodName := ⟨RJ9, "min", "(II)I"⟩
def RJxd2413 : String := "java/lang/Number"
def TJxd2413 : u_T := fun k => match k with
  | _ => ("", "", "", false)
def tyJxd2413 : Nat → FieldType := fun k => match k with
  | _ => .int
theorem nmJxd2413 : ∀ a, a < 0 → ∀ b, b < 0 → a ≠ b → (TJxd2413 a).2.1 ≠ (TJxd2413 b).2.1 := by decide +kernel
theorem tyJxd2413_ok : ∀ k, k < 0 → parseFieldDescriptor (TJxd2413 k).2.2.1 = some (tyJxd2413 k) := by decide +kernel
def RJ0 : String := "java/lang/String"
def TJ0 : u_T := fun k => match k with
  | 0 => ("java/lang/String", "value", "[B", true)
  | 1 => ("java/lang/String", "coder", "B", true)
  | 2 => ("java/lang/String", "hash", "I", false)
  | _ => ("java/lang/String", "hashIsZero", "Z", false)
def tyJ0 : Nat → FieldType := fun k => match k with
  | 0 => .array .byte
  | 1 => .byte
  | 2 => .int
  | _ => .boolean
theorem nmJ0 : ∀ a, a < 4 → ∀ b, b < 4 → a ≠ b → (TJ0 a).2.1 ≠ (TJ0 b).2.1 := by decide +kernel
theorem tyJ0_ok : ∀ k, k < 4 → parseFieldDescriptor (TJ0 k).2.2.1 = some (tyJ0 k) := by decide +kernel
abbrev cJ0_init_81219 : ByteArray := prog_18_method_53_code
def yJ0_init_81219 : MethodName := ⟨RJ0, "<init>", "(Ljava/lang/StringBuilder;)V"⟩
abbrev cJ0_length_8abf5 : ByteArray := prog_18_method_54_code
def yJ0_length_8abf5 : MethodName := ⟨RJ0, "length", "()I"⟩
abbrev cJ0_charAt_5068e : ByteArray := prog_18_method_56_code
def yJ0_charAt_5068e : MethodName := ⟨RJ0, "charAt", "(I)C"⟩
abbrev cJ0_equals_9ea2d : ByteArray := prog_18_method_66_code
def yJ0_equals_9ea2d : MethodName := ⟨RJ0, "equals", "(Ljava/lang/Object;)Z"⟩
abbrev cJ0_getBytes_840e7 : ByteArray := prog_18_method_147_code
def yJ0_getBytes_840e7 : MethodName := ⟨RJ0, "getBytes", "([BIB)V"⟩
abbrev cJ0_init_db425 : ByteArray := prog_18_method_150_code
def yJ0_init_db425 : MethodName := ⟨RJ0, "<init>", "(Ljava/lang/AbstractStringBuilder;Ljava/lang/Void;)V"⟩
abbrev cJ0_coder_7d493 : ByteArray := prog_18_method_152_code
def yJ0_coder_7d493 : MethodName := ⟨RJ0, "coder", "()B"⟩
abbrev cJ0_isLatin1_aae02 : ByteArray := prog_18_method_154_code
def yJ0_isLatin1_aae02 : MethodName := ⟨RJ0, "isLatin1", "()Z"⟩
abbrev cJ0_checkIndex_df160 : ByteArray := prog_18_method_155_code
def yJ0_checkIndex_df160 : MethodName := ⟨RJ0, "checkIndex", "(II)V"⟩
abbrev cJ0_checkBoundsOffCount_cabcc : ByteArray := prog_18_method_157_code
def yJ0_checkBoundsOffCount_cabcc : MethodName := ⟨RJ0, "checkBoundsOffCount", "(III)I"⟩
abbrev cJ0_checkBoundsBeginEnd_23922 : ByteArray := prog_18_method_158_code
def yJ0_checkBoundsBeginEnd_23922 : MethodName := ⟨RJ0, "checkBoundsBeginEnd", "(III)V"⟩
def RJ4 : String := "java/lang/StringBuilder"
def TJ4 : u_T := fun k => match k with
  | 0 => ("java/lang/AbstractStringBuilder", "value", "[B", false)
  | 1 => ("java/lang/AbstractStringBuilder", "coder", "B", false)
  | 2 => ("java/lang/AbstractStringBuilder", "maybeLatin1", "Z", false)
  | _ => ("java/lang/AbstractStringBuilder", "count", "I", false)
def tyJ4 : Nat → FieldType := fun k => match k with
  | 0 => .array .byte
  | 1 => .byte
  | 2 => .boolean
  | _ => .int
theorem nmJ4 : ∀ a, a < 4 → ∀ b, b < 4 → a ≠ b → (TJ4 a).2.1 ≠ (TJ4 b).2.1 := by decide +kernel
theorem tyJ4_ok : ∀ k, k < 4 → parseFieldDescriptor (TJ4 k).2.2.1 = some (tyJ4 k) := by decide +kernel
abbrev cJ4_init_da8c8 : ByteArray := prog_19_method_1_code
def yJ4_init_da8c8 : MethodName := ⟨RJ4, "<init>", "()V"⟩
abbrev cJ4_append_15ec4 : ByteArray := prog_19_method_7_code
def yJ4_append_15ec4 : MethodName := ⟨RJ4, "append", "(Ljava/lang/String;)Ljava/lang/StringBuilder;"⟩
abbrev cJ4_append_cf468 : ByteArray := prog_19_method_14_code
def yJ4_append_cf468 : MethodName := ⟨RJ4, "append", "(C)Ljava/lang/StringBuilder;"⟩
abbrev cJ4_append_bf812 : ByteArray := prog_19_method_15_code
def yJ4_append_bf812 : MethodName := ⟨RJ4, "append", "(I)Ljava/lang/StringBuilder;"⟩
abbrev cJ4_toString_0e30d : ByteArray := prog_19_method_42_code
def yJ4_toString_0e30d : MethodName := ⟨RJ4, "toString", "()Ljava/lang/String;"⟩
abbrev cJ4_length_8abf5 : ByteArray := prog_19_method_93_code
def yJ4_length_8abf5 : MethodName := ⟨RJ4, "length", "()I"⟩
def RJ1 : String := "java/lang/StringLatin1"
def TJ1 : u_T := fun k => match k with
  | _ => ("", "", "", false)
def tyJ1 : Nat → FieldType := fun k => match k with
  | _ => .int
theorem nmJ1 : ∀ a, a < 0 → ∀ b, b < 0 → a ≠ b → (TJ1 a).2.1 ≠ (TJ1 b).2.1 := by decide +kernel
theorem tyJ1_ok : ∀ k, k < 0 → parseFieldDescriptor (TJ1 k).2.2.1 = some (tyJ1 k) := by decide +kernel
abbrev cJ1_charAt_3b067 : ByteArray := prog_20_method_2_code
def yJ1_charAt_3b067 : MethodName := ⟨RJ1, "charAt", "([BI)C"⟩
abbrev cJ1_canEncode_fc78d : ByteArray := prog_20_method_3_code
def yJ1_canEncode_fc78d : MethodName := ⟨RJ1, "canEncode", "(C)Z"⟩
abbrev cJ1_equals_b5fdf : ByteArray := prog_20_method_13_code
def yJ1_equals_b5fdf : MethodName := ⟨RJ1, "equals", "([B[B)Z"⟩
abbrev cJ1_inflate_0e8fd : ByteArray := prog_20_method_50_code
def yJ1_inflate_0e8fd : MethodName := ⟨RJ1, "inflate", "([BI[BII)V"⟩
def RJ2 : String := "java/lang/StringUTF16"
def TJ2 : u_T := fun k => match k with
  | _ => ("", "", "", false)
def tyJ2 : Nat → FieldType := fun k => match k with
  | _ => .int
theorem nmJ2 : ∀ a, a < 0 → ∀ b, b < 0 → a ≠ b → (TJ2 a).2.1 ≠ (TJ2 b).2.1 := by decide +kernel
theorem tyJ2_ok : ∀ k, k < 0 → parseFieldDescriptor (TJ2 k).2.2.1 = some (tyJ2 k) := by decide +kernel
abbrev cJ2_newBytesFor_77867 : ByteArray := prog_21_method_2_code
def yJ2_newBytesFor_77867 : MethodName := ⟨RJ2, "newBytesFor", "(I)[B"⟩
abbrev cJ2_newBytesLength_0f7a4 : ByteArray := prog_21_method_3_code
def yJ2_newBytesLength_0f7a4 : MethodName := ⟨RJ2, "newBytesLength", "(I)I"⟩
abbrev cJ2_putChar_b72d1 : ByteArray := prog_21_method_4_code
def yJ2_putChar_b72d1 : MethodName := ⟨RJ2, "putChar", "([BII)V"⟩
abbrev cJ2_getChar_3b067 : ByteArray := prog_21_method_5_code
def yJ2_getChar_3b067 : MethodName := ⟨RJ2, "getChar", "([BI)C"⟩
abbrev cJ2_length_9d52b : ByteArray := prog_21_method_6_code
def yJ2_length_9d52b : MethodName := ⟨RJ2, "length", "([B)I"⟩
abbrev cJ2_coderFromArrayLen_85cad : ByteArray := prog_21_method_15_code
def yJ2_coderFromArrayLen_85cad : MethodName := ⟨RJ2, "coderFromArrayLen", "([BI)B"⟩
abbrev cJ2_compress_39247 : ByteArray := prog_21_method_17_code
def yJ2_compress_39247 : MethodName := ⟨RJ2, "compress", "([BII)[B"⟩
abbrev cJ2_compress_5af95 : ByteArray := prog_21_method_22_code
def yJ2_compress_5af95 : MethodName := ⟨RJ2, "compress", "([BI[BII)I"⟩
abbrev cJ2_putCharSB_b72d1 : ByteArray := prog_21_method_71_code
def yJ2_putCharSB_b72d1 : MethodName := ⟨RJ2, "putCharSB", "([BII)V"⟩
abbrev cJ2_getChars_46870 : ByteArray := prog_21_method_77_code
def yJ2_getChars_46870 : MethodName := ⟨RJ2, "getChars", "(III[B)I"⟩
abbrev cJ2_putCharsAt_cd4e5 : ByteArray := prog_21_method_81_code
def yJ2_putCharsAt_cd4e5 : MethodName := ⟨RJ2, "putCharsAt", "([BICCCC)I"⟩
abbrev cJ2_charAt_3b067 : ByteArray := prog_21_method_83_code
def yJ2_charAt_3b067 : MethodName := ⟨RJ2, "charAt", "([BI)C"⟩
abbrev cJ2_inflate_0e8fd : ByteArray := prog_21_method_86_code
def yJ2_inflate_0e8fd : MethodName := ⟨RJ2, "inflate", "([BI[BII)V"⟩
abbrev cJ2_getChars_ba4f3 : ByteArray := prog_21_method_89_code
def yJ2_getChars_ba4f3 : MethodName := ⟨RJ2, "getChars", "(II[B)I"⟩
abbrev cJ2_checkIndex_2214a : ByteArray := prog_21_method_91_code
def yJ2_checkIndex_2214a : MethodName := ⟨RJ2, "checkIndex", "(I[B)V"⟩
abbrev cJ2_checkBoundsBeginEnd_d044e : ByteArray := prog_21_method_93_code
def yJ2_checkBoundsBeginEnd_d044e : MethodName := ⟨RJ2, "checkBoundsBeginEnd", "(II[B)V"⟩
abbrev cJ2_checkBoundsOffCount_d044e : ByteArray := prog_21_method_94_code
def yJ2_checkBoundsOffCount_d044e : MethodName := ⟨RJ2, "checkBoundsOffCount", "(II[B)V"⟩
def RJ10 : String := "java/lang/System"
def TJ10 : u_T := fun k => match k with
  | _ => ("", "", "", false)
def tyJ10 : Nat → FieldType := fun k => match k with
  | _ => .int
theorem nmJ10 : ∀ a, a < 0 → ∀ b, b < 0 → a ≠ b → (TJ10 a).2.1 ≠ (TJ10 b).2.1 := by decide +kernel
theorem tyJ10_ok : ∀ k, k < 0 → parseFieldDescriptor (TJ10 k).2.2.1 = some (tyJ10 k) := by decide +kernel
def RJxfd54e : String := "java/lang/constant/Constable"
def TJxfd54e : u_T := fun k => match k with
  | _ => ("", "", "", false)
def tyJxfd54e : Nat → FieldType := fun k => match k with
  | _ => .int
theorem nmJxfd54e : ∀ a, a < 0 → ∀ b, b < 0 → a ≠ b → (TJxfd54e a).2.1 ≠ (TJxfd54e b).2.1 := by decide +kernel
theorem tyJxfd54e_ok : ∀ k, k < 0 → parseFieldDescriptor (TJxfd54e k).2.2.1 = some (tyJxfd54e k) := by decide +kernel
def RJx3cf43 : String := "java/lang/constant/ConstantDesc"
def TJx3cf43 : u_T := fun k => match k with
  | _ => ("", "", "", false)
def tyJx3cf43 : Nat → FieldType := fun k => match k with
  | _ => .int
theorem nmJx3cf43 : ∀ a, a < 0 → ∀ b, b < 0 → a ≠ b → (TJx3cf43 a).2.1 ≠ (TJx3cf43 b).2.1 := by decide +kernel
theorem tyJx3cf43_ok : ∀ k, k < 0 → parseFieldDescriptor (TJx3cf43 k).2.2.1 = some (tyJx3cf43 k) := by decide +kernel
def RJ7 : String := "java/util/Arrays"
def TJ7 : u_T := fun k => match k with
  | _ => ("", "", "", false)
def tyJ7 : Nat → FieldType := fun k => match k with
  | _ => .int
theorem nmJ7 : ∀ a, a < 0 → ∀ b, b < 0 → a ≠ b → (TJ7 a).2.1 ≠ (TJ7 b).2.1 := by decide +kernel
theorem tyJ7_ok : ∀ k, k < 0 → parseFieldDescriptor (TJ7 k).2.2.1 = some (tyJ7 k) := by decide +kernel
abbrev cJ7_fill_53178 : ByteArray := prog_23_method_103_code
def yJ7_fill_53178 : MethodName := ⟨RJ7, "fill", "([II)V"⟩
abbrev cJ7_copyOf_9075b : ByteArray := prog_23_method_121_code
def yJ7_copyOf_9075b : MethodName := ⟨RJ7, "copyOf", "([BI)[B"⟩
abbrev cJ7_checkLength_df160 : ByteArray := prog_23_method_131_code
def yJ7_checkLength_df160 : MethodName := ⟨RJ7, "checkLength", "(II)V"⟩
abbrev cJ7_copyOfRange_39247 : ByteArray := prog_23_method_132_code
def yJ7_copyOfRange_39247 : MethodName := ⟨RJ7, "copyOfRange", "([BII)[B"⟩
abbrev cJ7_copyOfRangeByte_39247 : ByteArray := prog_23_method_133_code
def yJ7_copyOfRangeByte_39247 : MethodName := ⟨RJ7, "copyOfRangeByte", "([BII)[B"⟩
def RJ8 : String := "jdk/internal/util/ArraysSupport"
def TJ8 : u_T := fun k => match k with
  | _ => ("", "", "", false)
def tyJ8 : Nat → FieldType := fun k => match k with
  | _ => .int
theorem nmJ8 : ∀ a, a < 0 → ∀ b, b < 0 → a ≠ b → (TJ8 a).2.1 ≠ (TJ8 b).2.1 := by decide +kernel
theorem tyJ8_ok : ∀ k, k < 0 → parseFieldDescriptor (TJ8 k).2.2.1 = some (tyJ8 k) := by decide +kernel
abbrev cJ8_newLength_cabcc : ByteArray := prog_24_method_27_code
def yJ8_newLength_cabcc : MethodName := ⟨RJ8, "newLength", "(III)I"⟩
abbrev cJ8_hugeLength_7cf53 : ByteArray := prog_24_method_28_code
def yJ8_hugeLength_7cf53 : MethodName := ⟨RJ8, "hugeLength", "(II)I"⟩
def RJ3 : String := "jdk/internal/util/Preconditions"
def TJ3 : u_T := fun k => match k with
  | _ => ("", "", "", false)
def tyJ3 : Nat → FieldType := fun k => match k with
  | _ => .int
theorem nmJ3 : ∀ a, a < 0 → ∀ b, b < 0 → a ≠ b → (TJ3 a).2.1 ≠ (TJ3 b).2.1 := by decide +kernel
theorem tyJ3_ok : ∀ k, k < 0 → parseFieldDescriptor (TJ3 k).2.2.1 = some (tyJ3 k) := by decide +kernel
abbrev cJ3_checkIndex_8e157 : ByteArray := prog_25_method_11_code
def yJ3_checkIndex_8e157 : MethodName := ⟨RJ3, "checkIndex", "(IILjava/util/function/BiFunction;)I"⟩
abbrev cJ3_checkFromToIndex_8c36e : ByteArray := prog_25_method_12_code
def yJ3_checkFromToIndex_8c36e : MethodName := ⟨RJ3, "checkFromToIndex", "(IIILjava/util/function/BiFunction;)I"⟩
abbrev cJ3_checkFromIndexSize_8c36e : ByteArray := prog_25_method_13_code
def yJ3_checkFromIndexSize_8c36e : MethodName := ⟨RJ3, "checkFromIndexSize", "(IIILjava/util/function/BiFunction;)I"⟩
def RL : String := "StairsNearLaw"
abbrev cL_cell : ByteArray := method_2_code
def yL_cell : MethodName := ⟨RL, "cell", "([II)I"⟩
abbrev cL_between : ByteArray := method_3_code
def yL_between : MethodName := ⟨RL, "between", "(III)I"⟩
abbrev cL_poly : ByteArray := method_4_code
def yL_poly : MethodName := ⟨RL, "poly", "(LStairsNear;ILjava/lang/String;)I"⟩
abbrev cL_said : ByteArray := method_5_code
def yL_said : MethodName := ⟨RL, "said", "(LStairsNear;I)Ljava/lang/String;"⟩
abbrev cL_drawn : ByteArray := method_6_code
def yL_drawn : MethodName := ⟨RL, "drawn", "(IIIII)Ljava/lang/String;"⟩
abbrev cL_law : ByteArray := code
def yL_law : MethodName := ⟨RL, "law", "([I)Z"⟩
abbrev cL_isStepped : ByteArray := method_8_code
def yL_isStepped : MethodName := ⟨RL, "isStepped", "(LStairsNear;I)Z"⟩
abbrev cL_isWhole : ByteArray := method_9_code
def yL_isWhole : MethodName := ⟨RL, "isWhole", "(LStairsNear;I)Z"⟩
abbrev cL_isLeft : ByteArray := method_10_code
def yL_isLeft : MethodName := ⟨RL, "isLeft", "(LStairsNear;I)Z"⟩
abbrev cL_isRest : ByteArray := method_11_code
def yL_isRest : MethodName := ⟨RL, "isRest", "(LStairsNear;II)Z"⟩
abbrev vwCl : List vw_C := [(RX0, TX0, 9), (RX1, TX1, 3), (RX2, TX2, 4), (RX4, TX4, 1), (RX5, TX5, 3), (RX6, TX6, 7), (RX7, TX7, 8), (RX8, TX8, 2), (RX9, TX9, 11), (RJ0, TJ0, 4), (RJ4, TJ4, 4)]
end
section
/-! ===== THE WALK: values, shapes, cells ===== -/
abbrev PV : Type := (Int ⊕ Int) ⊕ (Nat ⊕ Nat)
abbrev vI (x : Int) : PV := Sum.inl (Sum.inl x)
abbrev vL (x : Int) : PV := Sum.inl (Sum.inr x)
abbrev vR (r : Nat) : PV := Sum.inr (Sum.inl r)
abbrev vO (k : Nat) : PV := Sum.inr (Sum.inr k)
abbrev vS : PV := Sum.inr (Sum.inr 0)
def InR (x : Int) : Prop := -2147483648 ≤ x ∧ x < 2147483648
def InL (x : Int) : Prop := -9223372036854775808 ≤ x ∧ x < 9223372036854775808
def w32 (x : Int) : Int := (Int32.ofInt x).toInt
def w64 (x : Int) : Int := (Int64.ofInt x).toInt
theorem InR_toInt (x : Int32) : InR x.toInt := ⟨x.le_toInt, x.toInt_lt⟩
theorem InL_toInt (x : Int64) : InL x.toInt := ⟨x.le_toInt, x.toInt_lt⟩
theorem InR.L {x : Int} (h : InR x) : InL x := by unfold InR at h; unfold InL; omega
theorem w32_id {x : Int} (h : -2147483648 ≤ x ∧ x < 2147483648) : w32 x = x := Int32.toInt_ofInt_of_le h.1 h.2
theorem w64_id {x : Int} (h : -9223372036854775808 ≤ x ∧ x < 9223372036854775808) : w64 x = x := Int64.toInt_ofInt_of_le h.1 h.2
theorem o32 {x : Int} (h : InR x) : (Int32.ofInt x).toInt = x := Int32.toInt_ofInt_of_le h.1 h.2
theorem o64 {x : Int} (h : InL x) : (Int64.ofInt x).toInt = x := Int64.toInt_ofInt_of_le h.1 h.2
theorem o32w (x : Int) : Int32.ofInt (w32 x) = Int32.ofInt x := Int32.ofInt_toInt _
theorem o64w (x : Int) : Int64.ofInt (w64 x) = Int64.ofInt x := Int64.ofInt_toInt _
def iand (x y : Int) : Int := (Int32.ofInt x &&& Int32.ofInt y).toInt
def ior (x y : Int) : Int := (Int32.ofInt x ||| Int32.ofInt y).toInt
def ixor (x y : Int) : Int := (Int32.ofInt x ^^^ Int32.ofInt y).toInt
def ishl (x y : Int) : Int := (Int32.ofInt x <<< (Int32.ofInt y &&& 31)).toInt
def ishr (x y : Int) : Int := (Int32.ofInt x >>> (Int32.ofInt y &&& 31)).toInt
def iushr (x y : Int) : Int := ((Int32.ofInt x).toUInt32 >>> ((Int32.ofInt y).toUInt32 &&& Int32.toUInt32 31)).toInt32.toInt
def irem (x y : Int) : Int := (Int32.ofInt x - Int32.ofInt x / Int32.ofInt y * Int32.ofInt y).toInt
def idiv (x y : Int) : Int := (Int32.ofInt x / Int32.ofInt y).toInt
def lrem (x y : Int) : Int := (Int64.ofInt x - Int64.ofInt x / Int64.ofInt y * Int64.ofInt y).toInt
def i2b (x : Int) : Int := (Int32.ofInt x).toInt8.toInt32.toInt
def lcmp (x y : Int) : Int := (lg_cmp (Int64.ofInt x) (Int64.ofInt y)).toInt
abbrev Gl : Type := Nat × Nat × Nat × (Nat → Int32) × va_G × List (ClassId × FieldType) × (Nat → Option Nat)
def gB (G : Gl) : Nat := G.1
def gb (G : Gl) : Nat := G.2.1
def gL (G : Gl) : Nat := G.2.2.1
def gX (G : Gl) : Nat → Int32 := G.2.2.2.1
def gD (G : Gl) : va_G := G.2.2.2.2.1
def gT (G : Gl) : List (ClassId × FieldType) := G.2.2.2.2.2.1
/-- what was there before: the script (0), the constants of text (1 .. 6), their bytes (7 .. 12), a formatter (13) -/
def gO (G : Gl) (k : Nat) : Option Nat := if k = 0 then some (gb G) else G.2.2.2.2.2.2 (k - 1)
def gA (G : Gl) (k : Nat) : Nat := (gO G k).getD 0
def mv (G : Gl) : PV → Value
  | .inl (.inl x) => .int (Int32.ofInt x)
  | .inl (.inr x) => .long (Int64.ofInt x)
  | .inr (.inr k) => va_rf (gO G k)
  | .inr (.inl 0) => .null
  | .inr (.inl (k + 1)) => .ref (gB G + k)
theorem mv_old (G : Gl) (k : Nat) : mv G (vO k) = .null ∨ ∃ a, mv G (vO k) = .ref a := by
  show va_rf (gO G k) = .null ∨ ∃ a, va_rf (gO G k) = .ref a
  cases gO G k with
  | none => exact Or.inl rfl
  | some a => exact Or.inr ⟨a, rfl⟩
theorem mv_ref (G : Gl) {r : Nat} (h : 1 ≤ r) : mv G (vR r) = .ref (gB G + (r - 1)) := by
  obtain ⟨k, rfl⟩ : ∃ k, r = k + 1 := ⟨r - 1, by omega⟩
  rfl
def vok : PV → Prop
  | .inl (.inl x) => InR x
  | .inl (.inr x) => InL x
  | .inr _ => True
def pcat : PV → Nat
  | .inl (.inr _) => 2
  | _ => 1
theorem mv_cat (G : Gl) (v : PV) : (mv G v).category = pcat v := by
  match v with
  | .inl (.inl _) => rfl
  | .inl (.inr _) => rfl
  | .inr (.inr k) => show (va_rf (gO G k)).category = 1; cases gO G k <;> rfl
  | .inr (.inl 0) => rfl
  | .inr (.inl (_ + 1)) => rfl
-- shapes: the next cell, the slots used, the kind of each cell (ci + 1: of class ci; 21 ..: arrays), its length
abbrev Sh : Type := Nat × Nat × (Nat → Nat) × (Nat → Nat)
def sN (S : Sh) : Nat := S.1
def sU (S : Sh) : Nat := S.2.1
def sT (S : Sh) : Nat → Nat := S.2.2.1
def sL (S : Sh) : Nat → Nat := S.2.2.2
abbrev MI : Type := Nat → Nat → Int
abbrev MR : Type := Nat → Nat → Nat
def clTy (ci : Nat) : Nat → FieldType := match ci with
  | 0 => tyX0 | 1 => tyX1 | 2 => tyX2 | 3 => tyX4 | 4 => tyX5 | 5 => tyX6 | 6 => tyX7 | 7 => tyX8 | 8 => tyX9 | 9 => tyJ0 | _ => tyJ4
def clN (ci : Nat) : Nat := match ci with
  | 0 => 9 | 1 => 3 | 2 => 4 | 3 => 1 | 4 => 3 | 5 => 7 | 6 => 8 | 7 => 2 | 8 => 11 | 9 => 4 | _ => 4
def atyL : List FieldType := [.int, .byte, .int, .object RX5, .object RX1, .object RX2, .array .int]
def rvo (G : Gl) : Nat → Option Nat
  | 0 => none
  | k + 1 => some (gB G + k)
theorem rvo_rf (G : Gl) (r : Nat) : va_rf (rvo G r) = mv G (vR r) := by cases r <;> rfl
def fval (G : Gl) (ty : FieldType) (x : Int) (r : Nat) : Value := match ty with
  | .long => .long (Int64.ofInt x)
  | .object _ => mv G (vR r)
  | .array _ => mv G (vR r)
  | _ => .int (Int32.ofInt x)
def irng (ty : FieldType) (x : Int) : Prop := match ty with
  | .long => InL x
  | .byte => -128 ≤ x ∧ x < 128
  | .boolean => x = 0 ∨ x = 1
  | _ => InR x
def ety (t j : Nat) : FieldType := if t ≤ 20 then clTy (t - 1) j else atyL.getD (t - 21) .int
def cellE (G : Gl) (t len : Nat) (x : Nat → Int) (r : Nat → Nat) : va_E :=
  if t ≤ 20 then .inr (t - 1, (List.range (clN (t - 1))).map (fun j => fval G (clTy (t - 1) j) (x j) (r j)))
  else .inl (((gT G).getD (t - 21) (0, .int)).1, len, if t ≤ 23 then .inl (fun j => Int32.ofInt (x j)) else .inr (.inr (.inr (.inr (fun j => rvo G (r j))))))
def wsOf (G : Gl) (S : Sh) (I : MI) (R : MR) : va_W := (List.range (sN S - 1)).map (fun k => (gB G + k, cellE G (sT S (k + 1)) (sL S (k + 1)) (I (k + 1)) (R (k + 1))))
theorem wsOf_len (G : Gl) (S : Sh) (I : MI) (R : MR) : (wsOf G S I R).length = sN S - 1 := by simp [wsOf]
theorem wsOf_get (G : Gl) {S : Sh} (I : MI) (R : MR) {a : Nat} (h1 : 1 ≤ a) (h2 : a < sN S) : (wsOf G S I R)[a - 1]? = some (gB G + (a - 1), cellE G (sT S a) (sL S a) (I a) (R a)) := by
  obtain ⟨k, rfl⟩ : ∃ k, a = k + 1 := ⟨a - 1, by omega⟩
  unfold wsOf
  rw [Nat.add_sub_cancel, List.getElem?_map, List.getElem?_range (by omega)]
  rfl
theorem wsOf_set (G : Gl) {S : Sh} {I I' : MI} {R R' : MR} {a : Nat} (h1 : 1 ≤ a) (h2 : a < sN S) (hI : ∀ k, k ≠ a → I' k = I k) (hR : ∀ k, k ≠ a → R' k = R k) {e : va_E} (he : e = cellE G (sT S a) (sL S a) (I' a) (R' a)) : (wsOf G S I R).set (a - 1) (gB G + (a - 1), e) = wsOf G S I' R' := by
  apply List.ext_getElem?
  intro k
  by_cases hk : k = a - 1
  · subst hk
    rw [List.getElem?_set_self (by rw [wsOf_len]; omega), wsOf_get G I' R' h1 h2, he]
  · rw [List.getElem?_set_ne (Ne.symm hk)]
    by_cases hl : k < sN S - 1
    · rw [show k = (k + 1) - 1 by omega, wsOf_get G I R (by omega) (by omega), wsOf_get G I' R' (by omega) (by omega), hI _ (by omega), hR _ (by omega)]
    · rw [List.getElem?_eq_none (by rw [wsOf_len]; omega), List.getElem?_eq_none (by rw [wsOf_len]; omega)]
theorem wsOf_push (G : Gl) {S S' : Sh} {I I' : MI} {R R' : MR} (h0 : 1 ≤ sN S) (hn : sN S' = sN S + 1) (hT : ∀ k, k < sN S → sT S' k = sT S k) (hL : ∀ k, k < sN S → sL S' k = sL S k) (hI : ∀ k, k < sN S → I' k = I k) (hR : ∀ k, k < sN S → R' k = R k) :
    wsOf G S' I' R' = wsOf G S I R ++ [(gB G + (sN S - 1), cellE G (sT S' (sN S)) (sL S' (sN S)) (I' (sN S)) (R' (sN S)))] := by
  unfold wsOf
  rw [hn, show sN S + 1 - 1 = (sN S - 1) + 1 by omega, List.range_succ, List.map_append]
  congr 1
  · apply List.map_congr_left
    intro k hk
    have hk := List.mem_range.mp hk
    rw [hT _ (by omega), hL _ (by omega), hI _ (by omega), hR _ (by omega)]
  · simp only [List.map_cons, List.map_nil, show sN S - 1 + 1 = sN S by omega]
theorem wsOf_D (G : Gl) (S : Sh) (I : MI) (R : MR) : va_D (fun q => gB G ≤ q) (wsOf G S I R) := by
  have h : ∀ (i : Nat) (p : Nat × va_E), (wsOf G S I R)[i]? = some p → p.1 = gB G + i := by
    intro i p hp
    have hl := (List.getElem?_eq_some_iff.mp hp).1
    rw [wsOf_len] at hl
    have := wsOf_get G (S := S) I R (a := i + 1) (by omega) (by omega)
    rw [show i + 1 - 1 = i by omega, hp] at this
    rw [Option.some.inj this]
  refine ⟨fun i j p q hp hq e => ?_, fun k q hq => ?_⟩
  · have h1 := h i p hp
    have h2 := h j q hq
    omega
  · have h1 := h k q hq
    show gB G ≤ q.1
    omega
def okS (S : Sh) : Prop := 1 ≤ sN S ∧ ∀ a, sT S a ≠ 0 → 1 ≤ a ∧ a < sN S ∧ (sT S a ≤ 11 ∨ (21 ≤ sT S a ∧ sT S a ≤ 27)) ∧ sL S a < 2147483648
def okI (S : Sh) (I : MI) : Prop := ∀ a j, irng (ety (sT S a) j) (I a j)
def MRel (G : Gl) (S : Sh) (I : MI) (R : MR) (Hm : Heap) : Prop := va_P (gD G) vwCl (wsOf G S I R) Hm ∧ Hm.size = gB G + (sN S - 1)
-- a method: its class, name, code, locals, answer, rank (its calls have lesser ones)
abbrev MB : Type := String × MethodName × ByteArray × Nat × Option FieldType × Nat × Nat
abbrev mO (μ : MB) : String := μ.1
abbrev mY (μ : MB) : MethodName := μ.2.1
abbrev mC (μ : MB) : ByteArray := μ.2.2.1
abbrev mL (μ : MB) : Nat := μ.2.2.2.1
abbrev mR (μ : MB) : Option FieldType := μ.2.2.2.2.1
abbrev mK (μ : MB) : Nat := μ.2.2.2.2.2.1
abbrev mW (μ : MB) : Nat := μ.2.2.2.2.2.2
/-- the tables' words that hold through every call; those of the nest, of arrays over references -/
def lw_t2 : List Cond := lw_tbl.filter goodWord
theorem lw_in {w : Cond} (i : Nat) (h : lw_tbl[i]? = some w) (hg : goodWord w = true) : w ∈ lw_t2 := List.mem_filter.mpr ⟨List.mem_of_getElem? h, hg⟩
def isNest : Cond → Bool
  | .methodLinkNest .. => true
  | _ => false
def lw_n : List Cond := lw_tbl.filter isNest
theorem lw_nin {w : Cond} (i : Nat) (h : lw_tbl[i]? = some w) (hg : isNest w = true) : w ∈ lw_n := List.mem_filter.mpr ⟨List.mem_of_getElem? h, hg⟩
def va_A2 (U : State) : Prop := (Cond.arrayOver (.array .int)).before #[] U = true
def ExA (U : State) : Prop := (∀ w ∈ lw_n, va_Nw w U) ∧ va_AO RX5 U ∧ va_AO RX1 U ∧ va_AO RX2 U ∧ va_A2 U ∧ va_Nw (.castable "[B" "java/lang/Cloneable") U
/-- the constants of text: "", "+", "-", "x^", "y^", "z^" -/
def litLen : List Nat := [0, 1, 1, 2, 2, 2]
def litByt : List (List Int32) := [[], [43], [45], [120, 94], [121, 94], [122, 94]]
def litIx : List Nat := [56, 58, 60, 68, 70, 72]
def litTx : List String := ["", "+", "-", "x^", "y^", "z^"]
/-- what stands unchanged of what was there before -/
def va_Old (G : Gl) (U : State) (H : Heap) : Prop :=
  vk_S 6 litLen litByt (fun i => gA G (i + 1)) (fun i => gA G (i + 7)) (fun q => gB G ≤ q) U H ∧ (∀ i, i < 6 → vk_R RL (litIx.getD i 0) (litTx.getD i "") (gA G (i + 1)) U) ∧
  va_Z "java/lang/String" "COMPACT_STRINGS" "Z" (.int 1) (fun q => gB G ≤ q) U H ∧ va_Z "jdk/internal/util/Preconditions" "SIOOBE_FORMATTER" "Ljava/util/function/BiFunction;" (mv G (vO 13)) (fun q => gB G ≤ q) U H ∧ va_Z "java/lang/Integer" "DigitOnes" "[B" (.ref (gA G 14)) (fun q => gB G ≤ q) U H ∧ va_T .byte (gA G 14) 100 (fun j => .int (Int32.ofNat (48 + j % 10))) (fun q => gB G ≤ q) U H ∧
  (∀ k, k < 14 → k ≠ 12 → ∃ a, gO G (k + 1) = some a)
theorem va_Old.kept {G : Gl} {U : State} {H H1 : Heap} (h : va_Old G U H) (hq : ∀ a : Nat, a < H.size → ¬ gB G ≤ a → H1[a]? = H[a]?) : va_Old G U H1 :=
  ⟨h.1.kept hq, h.2.1, h.2.2.1.kept hq, h.2.2.2.1.kept hq, h.2.2.2.2.1.kept hq, h.2.2.2.2.2.1.kept hq, h.2.2.2.2.2.2⟩
theorem va_Old.warm {G : Gl} {s U : State} {H : Heap} (hW : s.WarmedH U.vm) (h : va_Old G s H) : va_Old G U H :=
  ⟨h.1.moved hW.alike, fun i hi => (h.2.1 i hi).warm hW, h.2.2.1.moved hW.alike, h.2.2.2.1.moved hW.alike, h.2.2.2.2.1.moved hW.alike, h.2.2.2.2.2.1.moved hW.alike, h.2.2.2.2.2.2⟩
theorem va_Old.same {G : Gl} {u U : State} {H : Heap} (hv : u.vm = U.vm) (h : va_Old G u H) : va_Old G U H := by
  have hal : u.vm.Alike U.vm := by rw [hv]; exact Vm.Alike.refl _
  exact ⟨h.1.moved hal, fun i hi => vk_R.same hv.symm (h.2.1 i hi), h.2.2.1.moved hal, h.2.2.2.1.moved hal, h.2.2.2.2.1.moved hal, h.2.2.2.2.2.1.moved hal, h.2.2.2.2.2.2⟩
def ExW (G : Gl) (U : State) (H : Heap) : Prop := ExA U ∧ va_Old G U H
theorem va_A2.moved {u U : State} (hvm : u.vm.Alike U.vm) (h : va_A2 u) : va_A2 U := Jvm.Stand.arrayOver_alikeB hvm h
theorem ExA.warm {s U : State} (hW : s.WarmedH U.vm) (h : ExA s) : ExA U := by
  refine ⟨fun w hw => ?_, h.2.1.moved hW.alike, h.2.2.1.moved hW.alike, h.2.2.2.1.moved hW.alike, h.2.2.2.2.1.moved hW.alike, va_Nw.warmC hW h.2.2.2.2.2⟩
  have h1 := h.1 w hw
  have h2 := (List.mem_filter.mp hw).2
  cases w with
  | methodLinkNest a i x hh => exact va_Nw.warmM hW h1
  | _ => cases h2
theorem ExW.warm {G : Gl} {s U : State} {H : Heap} (hW : s.WarmedH U.vm) (h : ExW G s H) : ExW G U H := ⟨h.1.warm hW, h.2.warm hW⟩
def Cx (G : Gl) (μ : MB) (p : Program) (Rm : Room) (s : State) (m : MethodId) (args : Array Value) (meth : Method) (c : Code) : Prop :=
  p.tables.exec = Jvm.exec ∧ c.code = mC μ ∧ c.maxLocals = mL μ ∧ s.vm.findClass (mO μ) = some m.cls ∧ (∀ w ∈ lw_t2, w.before args s = true) ∧ meth.sig.returnType = mR μ ∧ meth.locks = false ∧ ((mY μ).name = "<init>" → meth.name = "<init>") ∧ va_K (gD G) vwCl (gT G) s ∧ (gT G).map Prod.snd = atyL ∧
  mK μ ≤ Rm.frames ∧ mW μ ≤ Rm.locals ∧ gB G ≤ s.heap.size ∧ gb G < gB G ∧ va_X (gb G) (gL G) (gX G) s s.heap ∧ gL G ≤ 260 ∧ ExW G s s.heap
abbrev Lc : Type := List (Nat × PV)
def mls (G : Gl) (ls : Lc) : List (Nat × Value) := ls.map (fun q => (q.1, mv G q.2))
def retst (G : Gl) : PV → List Value
  | .inr (.inr 0) => []
  | v => [mv G v]
def IsRet (μ : MB) (pc : Nat) (v : PV) : Prop :=
  (∃ x, v = vI x ∧ decode (mC μ) pc = .ok (.ireturn, 1) ∧ (mR μ = some .int ∨ (mR μ = some .boolean ∧ (x = 0 ∨ x = 1)) ∨ (mR μ = some .byte ∧ -128 ≤ x ∧ x < 128) ∨ (mR μ = some .char ∧ 0 ≤ x ∧ x < 65536))) ∨
  (∃ r, v = vR r ∧ decode (mC μ) pc = .ok (.areturn, 1) ∧ ∃ rt, mR μ = some rt ∧ ((∃ n, rt = .object n) ∨ ∃ t, rt = .array t)) ∨
  (v = vS ∧ decode (mC μ) pc = .ok (.return_, 1) ∧ mR μ = none)
/-- the frame's locals and the heap are these -/
def Fr (G : Gl) (μ : MB) (ls : Lc) (S : Sh) (I : MI) (R : MR) (s : State) (Hm : Heap) (locs : List Loc) (lsM : Array Slot) : Prop :=
  lv_has lsM (mL μ) (mls G ls) ∧ MRel G S I R Hm ∧ va_S (fun q => gB G ≤ q) s.heap Hm locs
/-- from this frame the machine comes to a return instruction with this answer and this heap -/
def Run (G : Gl) (μ : MB) (pc : Nat) (ls : Lc) (st : List PV) (S : Sh) (I : MI) (R : MR) (S' : Sh) (I' : MI) (R' : MR) (v : PV) : Prop :=
  sN S ≤ sN S' ∧ sU S ≤ sU S' ∧ ∀ (p : Program) (l : Launch) (e : Env) (Rm : Room) (s : State) (m : MethodId) (args : Array Value) (below : List Frame) (meth : Method) (c : Code) (Hm : Heap) (locs : List Loc) (cells slots : Nat) (lsM : Array Slot) (Z : State → Prop),
    Cx G μ p Rm s m args meth c → cells + (sN S' - sN S) ≤ Rm.cells → slots + (sU S' - sU S) ≤ Rm.slots → Fr G μ ls S I R s Hm locs lsM →
    (∀ (Hm' : Heap) (locs' : List Loc) (pc' : Nat) (ls' : Array Slot), MRel G S' I' R' Hm' → va_S (fun q => gB G ≤ q) s.heap Hm' locs' → IsRet μ pc' v →
      W p l e Rm s m args below meth c Hm' locs' (cells + (sN S' - sN S)) (slots + (sU S' - sU S)) Z (F0 m pc' ls' (retst G v))) →
    W p l e Rm s m args below meth c Hm locs cells slots Z (F0 m pc lsM (st.map (mv G)))
abbrev PQ : Type := Sh → MI → MR → PV → Prop
def okL (ls : Lc) : Prop := ∀ q ∈ ls, vok q.2
def okV (st : List PV) : Prop := ∀ v ∈ st, vok v
def E (G : Gl) (μ : MB) (pc : Nat) (ls : Lc) (st : List PV) (S : Sh) (I : MI) (R : MR) (Q : PQ) : Prop :=
  okS S → okI S I → okL ls → okV st → ∃ (S' : Sh) (I' : MI) (R' : MR) (v : PV), Q S' I' R' v ∧ okS S' ∧ okI S' I' ∧ vok v ∧ Run G μ pc ls st S I R S' I' R' v
theorem E.mono {G : Gl} {μ : MB} {pc : Nat} {ls : Lc} {st : List PV} {S : Sh} {I : MI} {R : MR} {Q Q' : PQ} (h : E G μ pc ls st S I R Q) (hq : ∀ S' I' R' v, Q S' I' R' v → Q' S' I' R' v) : E G μ pc ls st S I R Q' := by
  intro a b c d
  obtain ⟨S', I', R', v, h1, h2⟩ := h a b c d
  exact ⟨S', I', R', v, hq _ _ _ _ h1, h2⟩
theorem E.ok {G : Gl} {μ : MB} {pc : Nat} {ls : Lc} {st : List PV} {S : Sh} {I : MI} {R : MR} {Q : PQ} (h : okS S → okI S I → okL ls → okV st → E G μ pc ls st S I R Q) : E G μ pc ls st S I R Q := fun a b c d => h a b c d a b c d
section GO
variable {G : Gl} {μ : MB} {pc pc2 : Nat} {ls ls2 : Lc} {st st2 : List PV} {S S2 : Sh} {I I2 : MI} {R R2 : MR} {Q : PQ}
/-- a step that may write and make cells -/
theorem e_step (hn : sN S ≤ sN S2) (hu : sU S ≤ sU S2) (hok : okS S → okI S I → okL ls → okV st → okS S2 ∧ okI S2 I2 ∧ okL ls2 ∧ okV st2)
    (h : ∀ (p : Program) (l : Launch) (e : Env) (Rm : Room) (s : State) (m : MethodId) (args : Array Value) (below : List Frame) (meth : Method) (c : Code) (Hm : Heap) (locs : List Loc) (cells slots : Nat) (lsM : Array Slot) (Z : State → Prop),
      okS S → okI S I → okL ls → okV st → Cx G μ p Rm s m args meth c → cells + (sN S2 - sN S) ≤ Rm.cells → slots + (sU S2 - sU S) ≤ Rm.slots → Fr G μ ls S I R s Hm locs lsM →
      (∀ (Hm' : Heap) (locs' : List Loc) (lsM' : Array Slot), Fr G μ ls2 S2 I2 R2 s Hm' locs' lsM' → W p l e Rm s m args below meth c Hm' locs' (cells + (sN S2 - sN S)) (slots + (sU S2 - sU S)) Z (F0 m pc2 lsM' (st2.map (mv G)))) →
      W p l e Rm s m args below meth c Hm locs cells slots Z (F0 m pc lsM (st.map (mv G))))
    (k : E G μ pc2 ls2 st2 S2 I2 R2 Q) : E G μ pc ls st S I R Q := by
  intro o1 o2 o3 o4
  obtain ⟨n1, n2, n3, n4⟩ := hok o1 o2 o3 o4
  obtain ⟨S', I', R', v, hq, r1, r2, r3, h1, h2, hk⟩ := k n1 n2 n3 n4
  refine ⟨S', I', R', v, hq, r1, r2, r3, Nat.le_trans hn h1, Nat.le_trans hu h2, ?_⟩
  intro p l e Rm s m args below meth c Hm locs cells slots lsM Z hC hc hs hF kk
  refine h p l e Rm s m args below meth c Hm locs cells slots lsM Z o1 o2 o3 o4 hC (by omega) (by omega) hF ?_
  intro Hm' locs' lsM' hF'
  refine hk p l e Rm s m args below meth c Hm' locs' _ _ lsM' Z hC (by omega) (by omega) hF' ?_
  intro Hm'' locs'' pc' ls' hM hS hr
  rw [show cells + (sN S2 - sN S) + (sN S' - sN S2) = cells + (sN S' - sN S) by omega, show slots + (sU S2 - sU S) + (sU S' - sU S2) = slots + (sU S' - sU S) by omega]
  exact kk Hm'' locs'' pc' ls' hM hS hr
/-- a step that leaves the heap alone, and the locals -/
theorem e_go (hv : okI S I → okL ls → okV st → okV st2)
    (h : ∀ (p : Program) (l : Launch) (e : Env) (Rm : Room) (s : State) (m : MethodId) (args : Array Value) (below : List Frame) (meth : Method) (c : Code) (Hm : Heap) (locs : List Loc) (cells slots : Nat) (lsM : Array Slot) (Z : State → Prop),
      okS S → okI S I → okL ls → okV st → Cx G μ p Rm s m args meth c → p.tables.exec = Jvm.exec → c.code = mC μ → Fr G μ ls S I R s Hm locs lsM → 
      W p l e Rm s m args below meth c Hm locs cells slots Z (F0 m pc2 lsM (st2.map (mv G))) →
      W p l e Rm s m args below meth c Hm locs cells slots Z (F0 m pc lsM (st.map (mv G))))
    (k : E G μ pc2 ls st2 S I R Q) : E G μ pc ls st S I R Q := by
  refine e_step (Nat.le_refl _) (Nat.le_refl _) (fun a b c d => ⟨a, b, c, hv b c d⟩) ?_ k
  intro p l e Rm s m args below meth c Hm locs cells slots lsM Z o1 o2 o3 o4 hC hc hs hF kk
  refine h p l e Rm s m args below meth c Hm locs cells slots lsM Z o1 o2 o3 o4 hC hC.1 hC.2.1 hF ?_
  have := kk Hm locs lsM hF
  simpa using this
/-- a step that writes a local -/
theorem e_gol (hv : okL ls → okV st → okL ls2 ∧ okV st2)
    (h : ∀ (p : Program) (l : Launch) (e : Env) (Rm : Room) (s : State) (m : MethodId) (args : Array Value) (below : List Frame) (meth : Method) (c : Code) (Hm : Heap) (locs : List Loc) (cells slots : Nat) (lsM : Array Slot) (Z : State → Prop),
      okL ls → okV st → p.tables.exec = Jvm.exec → c.code = mC μ → lv_has lsM (mL μ) (mls G ls) → 
      (∀ lsM' : Array Slot, lv_has lsM' (mL μ) (mls G ls2) → W p l e Rm s m args below meth c Hm locs cells slots Z (F0 m pc2 lsM' (st2.map (mv G)))) →
      W p l e Rm s m args below meth c Hm locs cells slots Z (F0 m pc lsM (st.map (mv G))))
    (k : E G μ pc2 ls2 st2 S I R Q) : E G μ pc ls st S I R Q := by
  refine e_step (Nat.le_refl _) (Nat.le_refl _) (fun a b c d => ⟨a, b, (hv c d).1, (hv c d).2⟩) ?_ k
  intro p l e Rm s m args below meth c Hm locs cells slots lsM Z o1 o2 o3 o4 hC hc hs hF kk
  refine h p l e Rm s m args below meth c Hm locs cells slots lsM Z o3 o4 hC.1 hC.2.1 hF.1 ?_
  intro lsM' hl
  have := kk Hm locs lsM' ⟨hl, hF.2⟩
  simpa using this
theorem vok_cons {v : PV} {st : List PV} (h : vok v) (hs : okV st) : okV (v :: st) := List.forall_mem_cons.mpr ⟨h, hs⟩
theorem vok_tl {v : PV} {st : List PV} (hs : okV (v :: st)) : okV st := (List.forall_mem_cons.mp hs).2
theorem vok_hd {v : PV} {st : List PV} (hs : okV (v :: st)) : vok v := (List.forall_mem_cons.mp hs).1
theorem lok_cons {q : Nat × PV} {ls : Lc} (h : vok q.2) (hs : okL ls) : okL (q :: ls) := List.forall_mem_cons.mpr ⟨h, hs⟩
theorem lok_at (h : okL ls) (k : Nat) {i : Nat} {v : PV} (hk : ls[k]? = some (i, v)) : vok v := h _ (List.mem_of_getElem? hk)
-- constants
theorem e_iconst {n : Int} (hd : decode (mC μ) pc = .ok (.iconst n, 1)) (hn : InR n) (k : E G μ (pc + 1) ls (vI n :: st) S I R Q) : E G μ pc ls st S I R Q :=
  e_go (fun _ _ h => vok_cons (v := vI n) hn h) (fun p l e Rm s m args below meth c Hm locs cells slots lsM Z _ _ _ _ hC hx hb hF kk => lv_iconst hx hb hd rfl kk) k
theorem e_bipush {n x : Int} (hd : decode (mC μ) pc = .ok (.bipush n, 2)) (hn : (Int8.ofInt n).toInt32 = Int32.ofInt x ∧ InR x) (k : E G μ (pc + 2) ls (vI x :: st) S I R Q) : E G μ pc ls st S I R Q :=
  e_go (fun _ _ h => vok_cons (v := vI x) hn.2 h) (fun p l e Rm s m args below meth c Hm locs cells slots lsM Z _ _ _ _ hC hx hb hF kk => lv_bipush hx hb hd hn.1 kk) k
theorem e_sipush {n x : Int} (hd : decode (mC μ) pc = .ok (.sipush n, 3)) (hn : (Int16.ofInt n).toInt32 = Int32.ofInt x ∧ InR x) (k : E G μ (pc + 3) ls (vI x :: st) S I R Q) : E G μ pc ls st S I R Q :=
  e_go (fun _ _ h => vok_cons (v := vI x) hn.2 h) (fun p l e Rm s m args below meth c Hm locs cells slots lsM Z _ _ _ _ hC hx hb hF kk => lv_sipush hx hb hd hn.1 kk) k
theorem e_ldc {x : Int} {index : Nat} (hd : decode (mC μ) pc = .ok (.ldc index, 2)) (hw : Jvm.Cond.constant (mO μ) index (Int32.ofInt x) ∈ lw_t2) (hn : InR x) (k : E G μ (pc + 2) ls (vI x :: st) S I R Q) : E G μ pc ls st S I R Q :=
  e_go (fun _ _ h => vok_cons (v := vI x) hn h) (fun p l e Rm s m args below meth c Hm locs cells slots lsM Z _ _ _ _ hC hx hb hF kk => lv_ldc hx hb hC.2.2.2.1 (hC.2.2.2.2.1 _ hw) hd kk) k
theorem e_ldc2 {x : Int} {index : Nat} (hd : decode (mC μ) pc = .ok (.ldc2_w index, 3)) (hw : Jvm.Cond.constantLong (mO μ) index (Int64.ofInt x) ∈ lw_t2) (hn : InL x) (k : E G μ (pc + 3) ls (vL x :: st) S I R Q) : E G μ pc ls st S I R Q :=
  e_go (fun _ _ h => vok_cons (v := vL x) hn h) (fun p l e Rm s m args below meth c Hm locs cells slots lsM Z _ _ _ _ hC hx hb hF kk => lv_ldc2 hx hb hC.2.2.2.1 (hC.2.2.2.2.1 _ hw) hd kk) k
theorem e_lconst {n : Fin 2} {x : Int} (hd : decode (mC μ) pc = .ok (.lconst n, 1)) (hn : Int64.ofNat (n : Nat) = Int64.ofInt x ∧ InL x) (k : E G μ (pc + 1) ls (vL x :: st) S I R Q) : E G μ pc ls st S I R Q :=
  e_go (fun _ _ h => vok_cons (v := vL x) hn.2 h) (fun p l e Rm s m args below meth c Hm locs cells slots lsM Z _ _ _ _ hC hx hb hF kk => lv_lconst hx hb hd hn.1 kk) k
theorem e_null (hd : decode (mC μ) pc = .ok (.aconst_null, 1)) (k : E G μ (pc + 1) ls (vR 0 :: st) S I R Q) : E G μ pc ls st S I R Q :=
  e_go (fun _ _ h => vok_cons (v := vR 0) trivial h) (fun p l e Rm s m args below meth c Hm locs cells slots lsM Z _ _ _ _ hC hx hb hF kk => lv_null hx hb hd kk) k
-- loads
theorem fr_at {lsM : Array Slot} {n : Nat} (h : lv_has lsM n (mls G ls)) (k : Nat) {i : Nat} {v : PV} (hk : ls[k]? = some (i, v)) : lsM[i]? = some (.val (mv G v)) :=
  lv_at h k (v := mv G v) (by simp [mls, hk])
theorem e_iload_n {j : Fin 4} {x : Int} (q : Nat) (hd : decode (mC μ) pc = .ok (.iload_n j, 1)) (hq : ls[q]? = some ((j : Nat), vI x)) (k : E G μ (pc + 1) ls (vI x :: st) S I R Q) : E G μ pc ls st S I R Q :=
  e_go (fun _ b h => vok_cons (lok_at b q hq) h) (fun p l e Rm s m args below meth c Hm locs cells slots lsM Z _ _ _ _ hC hx hb hF kk => lv_iload_n hx hb hd rfl (fr_at hF.1 q hq) kk) k
theorem e_iload {i : Nat} {x : Int} (q : Nat) (hd : decode (mC μ) pc = .ok (.iload i, 2)) (hq : ls[q]? = some (i, vI x)) (k : E G μ (pc + 2) ls (vI x :: st) S I R Q) : E G μ pc ls st S I R Q :=
  e_go (fun _ b h => vok_cons (lok_at b q hq) h) (fun p l e Rm s m args below meth c Hm locs cells slots lsM Z _ _ _ _ hC hx hb hF kk => lv_iload hx hb hd (fr_at hF.1 q hq) kk) k
theorem e_lload_n {j : Fin 4} {x : Int} (q : Nat) (hd : decode (mC μ) pc = .ok (.lload_n j, 1)) (hq : ls[q]? = some ((j : Nat), vL x)) (k : E G μ (pc + 1) ls (vL x :: st) S I R Q) : E G μ pc ls st S I R Q :=
  e_go (fun _ b h => vok_cons (lok_at b q hq) h) (fun p l e Rm s m args below meth c Hm locs cells slots lsM Z _ _ _ _ hC hx hb hF kk => lv_lload_n hx hb hd rfl (fr_at hF.1 q hq) kk) k
theorem e_lload {i : Nat} {x : Int} (q : Nat) (hd : decode (mC μ) pc = .ok (.lload i, 2)) (hq : ls[q]? = some (i, vL x)) (k : E G μ (pc + 2) ls (vL x :: st) S I R Q) : E G μ pc ls st S I R Q :=
  e_go (fun _ b h => vok_cons (lok_at b q hq) h) (fun p l e Rm s m args below meth c Hm locs cells slots lsM Z _ _ _ _ hC hx hb hF kk => lv_lload hx hb hd (fr_at hF.1 q hq) kk) k
theorem e_aload_n {j : Fin 4} {r : Nat ⊕ Nat} (q : Nat) (hd : decode (mC μ) pc = .ok (.aload_n j, 1)) (hq : ls[q]? = some ((j : Nat), .inr r)) (k : E G μ (pc + 1) ls (.inr r :: st) S I R Q) : E G μ pc ls st S I R Q := by
  refine e_go (fun _ b h => vok_cons (lok_at b q hq) h) (fun p l e Rm s m args below meth c Hm locs cells slots lsM Z _ _ _ _ hC hx hb hF kk => ?_) k
  have hl := fr_at hF.1 q hq
  match r, hl, kk with
  | .inr k, hl, kk =>
    rcases mv_old G k with e | ⟨a, e⟩
    · rw [List.map_cons, e] at kk
      rw [e] at hl
      exact lv_aload_nN hx hb hd rfl hl kk
    · rw [List.map_cons, e] at kk
      rw [e] at hl
      exact lv_aload_n hx hb hd rfl hl kk
  | .inl 0, hl, kk => exact lv_aload_nN hx hb hd rfl hl kk
  | .inl (_ + 1), hl, kk => exact lv_aload_n hx hb hd rfl hl kk
theorem e_aload {i : Nat} {r : Nat ⊕ Nat} (q : Nat) (hd : decode (mC μ) pc = .ok (.aload i, 2)) (hq : ls[q]? = some (i, .inr r)) (k : E G μ (pc + 2) ls (.inr r :: st) S I R Q) : E G μ pc ls st S I R Q := by
  refine e_go (fun _ b h => vok_cons (lok_at b q hq) h) (fun p l e Rm s m args below meth c Hm locs cells slots lsM Z _ _ _ _ hC hx hb hF kk => ?_) k
  have hl := fr_at hF.1 q hq
  match r, hl, kk with
  | .inr k, hl, kk =>
    rcases mv_old G k with e | ⟨a, e⟩
    · rw [List.map_cons, e] at kk
      rw [e] at hl
      exact lv_aloadN hx hb hd hl kk
    · rw [List.map_cons, e] at kk
      rw [e] at hl
      exact lv_aload hx hb hd hl kk
  | .inl 0, hl, kk => exact lv_aloadN hx hb hd hl kk
  | .inl (_ + 1), hl, kk => exact lv_aload hx hb hd hl kk
-- stores
def put1 (i : Nat) (v : PV) (ls : Lc) : Lc := (i, v) :: ls.filter (fun q => !(q.1 == i) && !(q.1 + 1 == i && pcat q.2 == 2))
def put2 (i : Nat) (v : PV) (ls : Lc) : Lc := (i, v) :: ls.filter (fun q => !(q.1 == i) && (!(q.1 == i + 1) && !(q.1 + 1 == i && pcat q.2 == 2)))
theorem put1_mls (G : Gl) (i : Nat) (v : PV) (ls : Lc) : (i, mv G v) :: (mls G ls).filter (fun q => !(q.1 == i) && !(q.1 + 1 == i && q.2.category == 2)) = mls G (put1 i v ls) := by
  unfold put1 mls
  rw [List.map_cons, List.filter_map]
  congr 2
  apply List.filter_congr
  intro q _
  simp [Function.comp, mv_cat]
theorem put2_mls (G : Gl) (i : Nat) (v : PV) (ls : Lc) : (i, mv G v) :: (mls G ls).filter (fun q => !(q.1 == i) && (!(q.1 == i + 1) && !(q.1 + 1 == i && q.2.category == 2))) = mls G (put2 i v ls) := by
  unfold put2 mls
  rw [List.map_cons, List.filter_map]
  congr 2
  apply List.filter_congr
  intro q _
  simp [Function.comp, mv_cat]
theorem lok_put1 {i : Nat} {v : PV} (h : vok v) (hs : okL ls) : okL (put1 i v ls) := lok_cons h (fun q hq => hs q (List.mem_filter.mp hq).1)
theorem lok_put2 {i : Nat} {v : PV} (h : vok v) (hs : okL ls) : okL (put2 i v ls) := lok_cons h (fun q hq => hs q (List.mem_filter.mp hq).1)
theorem e_istore_n {j : Fin 4} {x : Int} (hd : decode (mC μ) pc = .ok (.istore_n j, 1)) (hn : (j : Nat) < mL μ) (hl : put1 (j : Nat) (vI x) ls = ls2) (k : E G μ (pc + 1) ls2 st S I R Q) : E G μ pc ls (vI x :: st) S I R Q := by
  subst hl
  exact e_gol (fun a b => ⟨lok_put1 (vok_hd b) a, vok_tl b⟩) (fun p l e Rm s m args below meth c Hm locs cells slots lsM Z _ _ hx hb hF kk => lv_istore_n hx hb hd rfl hF hn (put1_mls G _ (vI x) ls) kk) k
theorem e_istore {i : Nat} {x : Int} (hd : decode (mC μ) pc = .ok (.istore i, 2)) (hn : i < mL μ) (hl : put1 i (vI x) ls = ls2) (k : E G μ (pc + 2) ls2 st S I R Q) : E G μ pc ls (vI x :: st) S I R Q := by
  subst hl
  exact e_gol (fun a b => ⟨lok_put1 (vok_hd b) a, vok_tl b⟩) (fun p l e Rm s m args below meth c Hm locs cells slots lsM Z _ _ hx hb hF kk => lv_istore hx hb hd hF hn (put1_mls G _ (vI x) ls) kk) k
theorem e_lstore_n {j : Fin 4} {x : Int} (hd : decode (mC μ) pc = .ok (.lstore_n j, 1)) (hn : (j : Nat) + 1 < mL μ) (hl : put2 (j : Nat) (vL x) ls = ls2) (k : E G μ (pc + 1) ls2 st S I R Q) : E G μ pc ls (vL x :: st) S I R Q := by
  subst hl
  exact e_gol (fun a b => ⟨lok_put2 (vok_hd b) a, vok_tl b⟩) (fun p l e Rm s m args below meth c Hm locs cells slots lsM Z _ _ hx hb hF kk => lv_lstore_n hx hb hd rfl hF hn (put2_mls G _ (vL x) ls) kk) k
theorem e_lstore {i : Nat} {x : Int} (hd : decode (mC μ) pc = .ok (.lstore i, 2)) (hn : i + 1 < mL μ) (hl : put2 i (vL x) ls = ls2) (k : E G μ (pc + 2) ls2 st S I R Q) : E G μ pc ls (vL x :: st) S I R Q := by
  subst hl
  exact e_gol (fun a b => ⟨lok_put2 (vok_hd b) a, vok_tl b⟩) (fun p l e Rm s m args below meth c Hm locs cells slots lsM Z _ _ hx hb hF kk => lv_lstore hx hb hd hF hn (put2_mls G _ (vL x) ls) kk) k
theorem e_astore_n {j : Fin 4} {r : Nat ⊕ Nat} (hd : decode (mC μ) pc = .ok (.astore_n j, 1)) (hn : (j : Nat) < mL μ) (hl : put1 (j : Nat) (.inr r) ls = ls2) (k : E G μ (pc + 1) ls2 st S I R Q) : E G μ pc ls (.inr r :: st) S I R Q := by
  subst hl
  refine e_gol (fun a b => ⟨lok_put1 (vok_hd b) a, vok_tl b⟩) (fun p l e Rm s m args below meth c Hm locs cells slots lsM Z _ _ hx hb hF kk => ?_) k
  match r, kk with
  | .inr k, kk =>
    have e0 := put1_mls G (j : Nat) (vO k) ls
    rw [List.map_cons]
    rcases mv_old G k with e | ⟨a, e⟩
    · rw [e] at e0 ⊢
      exact lv_astore_nN hx hb hd rfl hF hn e0 kk
    · rw [e] at e0 ⊢
      exact lv_astore_n hx hb hd rfl hF hn e0 kk
  | .inl 0, kk => exact lv_astore_nN hx hb hd rfl hF hn (put1_mls G _ (vR 0) ls) kk
  | .inl (r + 1), kk => exact lv_astore_n hx hb hd rfl hF hn (put1_mls G _ (vR (r + 1)) ls) kk
theorem e_astore {i : Nat} {r : Nat ⊕ Nat} (hd : decode (mC μ) pc = .ok (.astore i, 2)) (hn : i < mL μ) (hl : put1 i (.inr r) ls = ls2) (k : E G μ (pc + 2) ls2 st S I R Q) : E G μ pc ls (.inr r :: st) S I R Q := by
  subst hl
  refine e_gol (fun a b => ⟨lok_put1 (vok_hd b) a, vok_tl b⟩) (fun p l e Rm s m args below meth c Hm locs cells slots lsM Z _ _ hx hb hF kk => ?_) k
  match r, kk with
  | .inr k, kk =>
    have e0 := put1_mls G i (vO k) ls
    rw [List.map_cons]
    rcases mv_old G k with e | ⟨a, e⟩
    · rw [e] at e0 ⊢
      exact lv_astoreN hx hb hd hF hn e0 kk
    · rw [e] at e0 ⊢
      exact lv_astore hx hb hd hF hn e0 kk
  | .inl 0, kk => exact lv_astoreN hx hb hd hF hn (put1_mls G _ (vR 0) ls) kk
  | .inl (r + 1), kk => exact lv_astore hx hb hd hF hn (put1_mls G _ (vR (r + 1)) ls) kk
theorem e_iinc {i : Nat} {n x : Int} (q : Nat) (hd : decode (mC μ) pc = .ok (.iinc i n, 3)) (hq : ls[q]? = some (i, vI x)) (hn : i < mL μ) (hl : put1 i (vI (w32 (x + n))) ls = ls2) (k : E G μ (pc + 3) ls2 st S I R Q) : E G μ pc ls st S I R Q := by
  subst hl
  refine e_gol (fun a b => ⟨lok_put1 (v := vI _) (InR_toInt _) a, b⟩) (fun p l e Rm s m args below meth c Hm locs cells slots lsM Z _ _ hx hb hF kk => ?_) k
  exact lv_iinc (x := Int32.ofInt x) (v := Int32.ofInt (w32 (x + n))) hx hb hd hF (k := q) (by simp [mls, hq, mv]) (by rw [o32w, Int32.ofInt_add]) hn (put1_mls G _ (vI (w32 (x + n))) ls) kk
/-- fewer locals, in another order -/
theorem e_sub (is : List Nat) (hl : is.filterMap (fun i => ls[i]?) = ls2) (k : E G μ pc ls2 st S I R Q) : E G μ pc ls st S I R Q := by
  have hsub : ∀ q ∈ ls2, q ∈ ls := by
    intro q hq
    rw [← hl] at hq
    obtain ⟨i, -, hi⟩ := List.mem_filterMap.mp hq
    exact List.mem_of_getElem? hi
  refine e_step (Nat.le_refl _) (Nat.le_refl _) (fun a b c d => ⟨a, b, fun q hq => c q (hsub q hq), d⟩) ?_ k
  intro p l e Rm s m args below meth c Hm locs cells slots lsM Z o1 o2 o3 o4 hC hc hs hF kk
  have hh : lv_has lsM (mL μ) (mls G ls2) := by
    refine ⟨hF.1.1, hF.1.2.1, fun q hq => ?_⟩
    obtain ⟨q', hq', rfl⟩ := List.mem_map.mp hq
    exact hF.1.2.2 _ (List.mem_map.mpr ⟨q', hsub q' hq', rfl⟩)
  have := kk Hm locs lsM ⟨hh, hF.2⟩
  simpa using this
-- arithmetic
theorem e_iadd {x y : Int} (hd : decode (mC μ) pc = .ok (.iadd, 1)) (k : E G μ (pc + 1) ls (vI (w32 (x + y)) :: st) S I R Q) : E G μ pc ls (vI y :: vI x :: st) S I R Q :=
  e_go (fun _ _ h => vok_cons (v := vI _) (InR_toInt _) (vok_tl (vok_tl h))) (fun p l e Rm s m args below meth c Hm locs cells slots lsM Z _ _ _ _ hC hx hb hF kk => lv_iadd hx hb hd (by rw [← Int32.ofInt_add, ← o32w]; exact kk)) k
theorem e_isub {x y : Int} (hd : decode (mC μ) pc = .ok (.isub, 1)) (k : E G μ (pc + 1) ls (vI (w32 (x - y)) :: st) S I R Q) : E G μ pc ls (vI y :: vI x :: st) S I R Q :=
  e_go (fun _ _ h => vok_cons (v := vI _) (InR_toInt _) (vok_tl (vok_tl h))) (fun p l e Rm s m args below meth c Hm locs cells slots lsM Z _ _ _ _ hC hx hb hF kk => lv_isub hx hb hd (by rw [← Int32.ofInt_sub, ← o32w]; exact kk)) k
theorem e_imul {x y : Int} (hd : decode (mC μ) pc = .ok (.imul, 1)) (k : E G μ (pc + 1) ls (vI (w32 (x * y)) :: st) S I R Q) : E G μ pc ls (vI y :: vI x :: st) S I R Q :=
  e_go (fun _ _ h => vok_cons (v := vI _) (InR_toInt _) (vok_tl (vok_tl h))) (fun p l e Rm s m args below meth c Hm locs cells slots lsM Z _ _ _ _ hC hx hb hF kk => lv_imul hx hb hd (by rw [← Int32.ofInt_mul, ← o32w]; exact kk)) k
theorem e_ineg {x : Int} (hd : decode (mC μ) pc = .ok (.ineg, 1)) (k : E G μ (pc + 1) ls (vI (w32 (-x)) :: st) S I R Q) : E G μ pc ls (vI x :: st) S I R Q :=
  e_go (fun _ _ h => vok_cons (v := vI _) (InR_toInt _) (vok_tl h)) (fun p l e Rm s m args below meth c Hm locs cells slots lsM Z _ _ _ _ hC hx hb hF kk => lv_ineg hx hb hd (by rw [← Int32.ofInt_neg, ← o32w]; exact kk)) k
theorem e_iand {x y : Int} (hd : decode (mC μ) pc = .ok (.iand, 1)) (k : E G μ (pc + 1) ls (vI (iand x y) :: st) S I R Q) : E G μ pc ls (vI y :: vI x :: st) S I R Q :=
  e_go (fun _ _ h => vok_cons (v := vI _) (InR_toInt _) (vok_tl (vok_tl h))) (fun p l e Rm s m args below meth c Hm locs cells slots lsM Z _ _ _ _ hC hx hb hF kk => lv_iand hx hb hd (by rw [← Int32.ofInt_toInt (_ &&& _)]; exact kk)) k
theorem e_ior {x y : Int} (hd : decode (mC μ) pc = .ok (.ior, 1)) (k : E G μ (pc + 1) ls (vI (ior x y) :: st) S I R Q) : E G μ pc ls (vI y :: vI x :: st) S I R Q :=
  e_go (fun _ _ h => vok_cons (v := vI _) (InR_toInt _) (vok_tl (vok_tl h))) (fun p l e Rm s m args below meth c Hm locs cells slots lsM Z _ _ _ _ hC hx hb hF kk => lv_ior hx hb hd (by rw [← Int32.ofInt_toInt (_ ||| _)]; exact kk)) k
theorem e_ixor {x y : Int} (hd : decode (mC μ) pc = .ok (.ixor, 1)) (k : E G μ (pc + 1) ls (vI (ixor x y) :: st) S I R Q) : E G μ pc ls (vI y :: vI x :: st) S I R Q :=
  e_go (fun _ _ h => vok_cons (v := vI _) (InR_toInt _) (vok_tl (vok_tl h))) (fun p l e Rm s m args below meth c Hm locs cells slots lsM Z _ _ _ _ hC hx hb hF kk => lv_ixor hx hb hd (by rw [← Int32.ofInt_toInt (_ ^^^ _)]; exact kk)) k
theorem e_ishl {x y : Int} (hd : decode (mC μ) pc = .ok (.ishl, 1)) (k : E G μ (pc + 1) ls (vI (ishl x y) :: st) S I R Q) : E G μ pc ls (vI y :: vI x :: st) S I R Q :=
  e_go (fun _ _ h => vok_cons (v := vI _) (InR_toInt _) (vok_tl (vok_tl h))) (fun p l e Rm s m args below meth c Hm locs cells slots lsM Z _ _ _ _ hC hx hb hF kk => lv_ishl hx hb hd (by rw [← Int32.ofInt_toInt (_ <<< _)]; exact kk)) k
theorem e_ishr {x y : Int} (hd : decode (mC μ) pc = .ok (.ishr, 1)) (k : E G μ (pc + 1) ls (vI (ishr x y) :: st) S I R Q) : E G μ pc ls (vI y :: vI x :: st) S I R Q :=
  e_go (fun _ _ h => vok_cons (v := vI _) (InR_toInt _) (vok_tl (vok_tl h))) (fun p l e Rm s m args below meth c Hm locs cells slots lsM Z _ _ _ _ hC hx hb hF kk => lv_ishr hx hb hd (by rw [← Int32.ofInt_toInt (_ >>> _)]; exact kk)) k
theorem e_iushr {x y : Int} (hd : decode (mC μ) pc = .ok (.iushr, 1)) (k : E G μ (pc + 1) ls (vI (iushr x y) :: st) S I R Q) : E G μ pc ls (vI y :: vI x :: st) S I R Q :=
  e_go (fun _ _ h => vok_cons (v := vI _) (InR_toInt _) (vok_tl (vok_tl h))) (fun p l e Rm s m args below meth c Hm locs cells slots lsM Z _ _ _ _ hC hx hb hF kk => lv_iushr (x := Int32.ofInt x) (y := Int32.ofInt y) (v := Int32.ofInt (iushr x y)) hx hb hd (Int32.ofInt_toInt _).symm kk) k
theorem o32_ne {y : Int} (h : InR y) (hne : y ≠ 0) : ¬ Int32.ofInt y = 0 := fun e => hne (by rw [← o32 h, e]; rfl)
theorem o64_ne {y : Int} (h : InL y) (hne : y ≠ 0) : ¬ Int64.ofInt y = 0 := fun e => hne (by rw [← o64 h, e]; rfl)
theorem e_irem {x y : Int} (hd : decode (mC μ) pc = .ok (.irem, 1)) (hne : y ≠ 0) (k : E G μ (pc + 1) ls (vI (irem x y) :: st) S I R Q) : E G μ pc ls (vI y :: vI x :: st) S I R Q :=
  e_go (fun _ _ h => vok_cons (v := vI _) (InR_toInt _) (vok_tl (vok_tl h))) (fun p l e Rm s m args below meth c Hm locs cells slots lsM Z _ _ _ o4 hC hx hb hF kk => lv_irem hx hb hd (o32_ne (vok_hd o4) hne) (by rw [← Int32.ofInt_toInt (_ - _)]; exact kk)) k
theorem e_idiv {x y : Int} (hd : decode (mC μ) pc = .ok (.idiv, 1)) (hne : y ≠ 0) (k : E G μ (pc + 1) ls (vI (idiv x y) :: st) S I R Q) : E G μ pc ls (vI y :: vI x :: st) S I R Q :=
  e_go (fun _ _ h => vok_cons (v := vI _) (InR_toInt _) (vok_tl (vok_tl h))) (fun p l e Rm s m args below meth c Hm locs cells slots lsM Z _ _ _ o4 hC hx hb hF kk => lv_idiv hx hb hd (o32_ne (vok_hd o4) hne) (by rw [← Int32.ofInt_toInt (_ / _)]; exact kk)) k
theorem e_ladd {x y : Int} (hd : decode (mC μ) pc = .ok (.ladd, 1)) (k : E G μ (pc + 1) ls (vL (w64 (x + y)) :: st) S I R Q) : E G μ pc ls (vL y :: vL x :: st) S I R Q :=
  e_go (fun _ _ h => vok_cons (v := vL _) (InL_toInt _) (vok_tl (vok_tl h))) (fun p l e Rm s m args below meth c Hm locs cells slots lsM Z _ _ _ _ hC hx hb hF kk => lv_ladd hx hb hd (by rw [← Int64.ofInt_add, ← o64w]; exact kk)) k
theorem e_lsub {x y : Int} (hd : decode (mC μ) pc = .ok (.lsub, 1)) (k : E G μ (pc + 1) ls (vL (w64 (x - y)) :: st) S I R Q) : E G μ pc ls (vL y :: vL x :: st) S I R Q :=
  e_go (fun _ _ h => vok_cons (v := vL _) (InL_toInt _) (vok_tl (vok_tl h))) (fun p l e Rm s m args below meth c Hm locs cells slots lsM Z _ _ _ _ hC hx hb hF kk => lv_lsub hx hb hd (by rw [← Int64.ofInt_sub, ← o64w]; exact kk)) k
theorem e_lmul {x y : Int} (hd : decode (mC μ) pc = .ok (.lmul, 1)) (k : E G μ (pc + 1) ls (vL (w64 (x * y)) :: st) S I R Q) : E G μ pc ls (vL y :: vL x :: st) S I R Q :=
  e_go (fun _ _ h => vok_cons (v := vL _) (InL_toInt _) (vok_tl (vok_tl h))) (fun p l e Rm s m args below meth c Hm locs cells slots lsM Z _ _ _ _ hC hx hb hF kk => lv_lmul hx hb hd (by rw [← Int64.ofInt_mul, ← o64w]; exact kk)) k
theorem e_lneg {x : Int} (hd : decode (mC μ) pc = .ok (.lneg, 1)) (k : E G μ (pc + 1) ls (vL (w64 (-x)) :: st) S I R Q) : E G μ pc ls (vL x :: st) S I R Q :=
  e_go (fun _ _ h => vok_cons (v := vL _) (InL_toInt _) (vok_tl h)) (fun p l e Rm s m args below meth c Hm locs cells slots lsM Z _ _ _ _ hC hx hb hF kk => lv_lneg hx hb hd (by rw [← Int64.ofInt_neg, ← o64w]; exact kk)) k
theorem e_lrem {x y : Int} (hd : decode (mC μ) pc = .ok (.lrem, 1)) (hne : y ≠ 0) (k : E G μ (pc + 1) ls (vL (lrem x y) :: st) S I R Q) : E G μ pc ls (vL y :: vL x :: st) S I R Q :=
  e_go (fun _ _ h => vok_cons (v := vL _) (InL_toInt _) (vok_tl (vok_tl h))) (fun p l e Rm s m args below meth c Hm locs cells slots lsM Z _ _ _ o4 hC hx hb hF kk => lv_lrem hx hb hd (o64_ne (vok_hd o4) hne) (by rw [← Int64.ofInt_toInt (_ - _)]; exact kk)) k
theorem e_lcmp {x y : Int} (hd : decode (mC μ) pc = .ok (.lcmp, 1)) (k : E G μ (pc + 1) ls (vI (lcmp x y) :: st) S I R Q) : E G μ pc ls (vL y :: vL x :: st) S I R Q :=
  e_go (fun _ _ h => vok_cons (v := vI _) (InR_toInt _) (vok_tl (vok_tl h))) (fun p l e Rm s m args below meth c Hm locs cells slots lsM Z _ _ _ _ hC hx hb hF kk => W.lcmp hx hb hd (by rw [← Int32.ofInt_toInt (lg_cmp _ _)]; exact kk)) k
theorem e_i2l {x : Int} (hd : decode (mC μ) pc = .ok (.i2l, 1)) (k : E G μ (pc + 1) ls (vL x :: st) S I R Q) : E G μ pc ls (vI x :: st) S I R Q :=
  e_go (fun _ _ h => vok_cons (v := vL _) (InR.L (vok_hd h)) (vok_tl h)) (fun p l e Rm s m args below meth c Hm locs cells slots lsM Z _ _ _ o4 hC hx hb hF kk => lv_i2l (x := Int32.ofInt x) (v := Int64.ofInt x) hx hb hd (by rw [← Int64.ofInt_int32ToInt, o32 (vok_hd o4)]) kk) k
theorem e_l2i {x : Int} (hd : decode (mC μ) pc = .ok (.l2i, 1)) (k : E G μ (pc + 1) ls (vI (w32 x) :: st) S I R Q) : E G μ pc ls (vL x :: st) S I R Q :=
  e_go (fun _ _ h => vok_cons (v := vI _) (InR_toInt _) (vok_tl h)) (fun p l e Rm s m args below meth c Hm locs cells slots lsM Z _ _ _ o4 hC hx hb hF kk => lv_l2i (x := Int64.ofInt x) (v := Int32.ofInt (w32 x)) hx hb hd (by rw [o32w, ← Int32.ofInt_int64ToInt, o64 (vok_hd o4)]) kk) k
theorem e_i2b {x : Int} (hd : decode (mC μ) pc = .ok (.i2b, 1)) (k : E G μ (pc + 1) ls (vI (i2b x) :: st) S I R Q) : E G μ pc ls (vI x :: st) S I R Q :=
  e_go (fun _ _ h => vok_cons (v := vI _) (InR_toInt _) (vok_tl h)) (fun p l e Rm s m args below meth c Hm locs cells slots lsM Z _ _ _ o4 hC hx hb hF kk => lv_i2b (x := Int32.ofInt x) (v := Int32.ofInt (i2b x)) hx hb hd (Int32.ofInt_toInt _).symm kk) k
theorem e_dup {v : PV} (hd : decode (mC μ) pc = .ok (.dup, 1)) (hv : pcat v = 1) (k : E G μ (pc + 1) ls (v :: v :: st) S I R Q) : E G μ pc ls (v :: st) S I R Q :=
  e_go (fun _ _ h => vok_cons (vok_hd h) h) (fun p l e Rm s m args below meth c Hm locs cells slots lsM Z _ _ _ _ hC hx hb hF kk => lv_dup hx hb hd ((mv_cat G v).trans hv) kk) k
theorem e_dup2 {v w : PV} (hd : decode (mC μ) pc = .ok (.dup2, 1)) (hv : pcat v = 1) (hw : pcat w = 1) (k : E G μ (pc + 1) ls (v :: w :: v :: w :: st) S I R Q) : E G μ pc ls (v :: w :: st) S I R Q :=
  e_go (fun _ _ h => vok_cons (vok_hd h) (vok_cons (vok_hd (vok_tl h)) h)) (fun p l e Rm s m args below meth c Hm locs cells slots lsM Z _ _ _ _ hC hx hb hF kk => lv_dup2_11 hx hb hd ((mv_cat G v).trans hv) ((mv_cat G w).trans hw) kk) k
theorem e_pop {v : PV} (hd : decode (mC μ) pc = .ok (.pop, 1)) (hv : pcat v = 1) (k : E G μ (pc + 1) ls st S I R Q) : E G μ pc ls (v :: st) S I R Q :=
  e_go (fun _ _ h => vok_tl h) (fun p l e Rm s m args below meth c Hm locs cells slots lsM Z _ _ _ _ hC hx hb hF kk => lv_pop hx hb hd ((mv_cat G v).trans hv) kk) k
-- jumps
theorem e_goto {off : Int} {tgt : Nat} (hd : decode (mC μ) pc = .ok (.goto off, 3)) (ht : (pc : Int) + off = (tgt : Int)) (k : E G μ tgt ls st S I R Q) : E G μ pc ls st S I R Q :=
  e_go (fun _ _ h => h) (fun p l e Rm s m args below meth c Hm locs cells slots lsM Z _ _ _ _ hC hx hb hF kk => lv_goto hx hb hd ht kk) k
theorem e_ok (h : okS S → okI S I → okL ls → okV st → E G μ pc ls st S I R Q) : E G μ pc ls st S I R Q := E.ok h
theorem i_lt {x y : Int} (hx : InR x) (hy : InR y) : (Int32.ofInt x < Int32.ofInt y) ↔ x < y := by rw [Int32.lt_iff_toInt_lt, o32 hx, o32 hy]
theorem i_le {x y : Int} (hx : InR x) (hy : InR y) : (Int32.ofInt x ≤ Int32.ofInt y) ↔ x ≤ y := by rw [Int32.le_iff_toInt_le, o32 hx, o32 hy]
theorem i_eq {x y : Int} (hx : InR x) (hy : InR y) : (Int32.ofInt x = Int32.ofInt y) ↔ x = y := by rw [← Int32.toInt_inj, o32 hx, o32 hy]
theorem InR0 : InR 0 := by unfold InR; omega
end GO
end
section
/-! ===== THE WALK: jumps on numbers, fields, arrays ===== -/
section HP
variable {G : Gl} {μ : MB} {pc pc2 : Nat} {ls ls2 : Lc} {st st2 : List PV} {S S2 : Sh} {I I2 : MI} {R R2 : MR} {Q : PQ}
theorem e_icmp_eq {x y off : Int} {tgt : Nat} (hd : decode (mC μ) pc = .ok (.if_icmp .eq off, 3)) (ht : (pc : Int) + off = (tgt : Int)) (kt : x = y → E G μ tgt ls st S I R Q) (kf : ¬ (x = y) → E G μ (pc + 3) ls st S I R Q) : E G μ pc ls (vI y :: vI x :: st) S I R Q := by
  by_cases hxy : x = y
  · refine e_go (fun _ _ h => vok_tl (vok_tl h)) (fun p l e Rm s m args below meth c Hm locs cells slots lsM Z _ _ _ o4 hC hx hb hF kk => ?_) (kt hxy)
    have hx1 : InR x := vok_hd (vok_tl o4)
    have hy1 : InR y := vok_hd o4
    exact lv_icmp_eq hx hb hd ht (fun _ => kk) (fun h => absurd ((i_eq hx1 hy1).mpr hxy) h)
  · refine e_go (fun _ _ h => vok_tl (vok_tl h)) (fun p l e Rm s m args below meth c Hm locs cells slots lsM Z _ _ _ o4 hC hx hb hF kk => ?_) (kf hxy)
    have hx1 : InR x := vok_hd (vok_tl o4)
    have hy1 : InR y := vok_hd o4
    exact lv_icmp_eq hx hb hd ht (fun h => absurd ((i_eq hx1 hy1).mp h) hxy) (fun _ => kk)
theorem e_icmp_ne {x y off : Int} {tgt : Nat} (hd : decode (mC μ) pc = .ok (.if_icmp .ne off, 3)) (ht : (pc : Int) + off = (tgt : Int)) (kt : x ≠ y → E G μ tgt ls st S I R Q) (kf : ¬ (x ≠ y) → E G μ (pc + 3) ls st S I R Q) : E G μ pc ls (vI y :: vI x :: st) S I R Q := by
  by_cases hxy : x ≠ y
  · refine e_go (fun _ _ h => vok_tl (vok_tl h)) (fun p l e Rm s m args below meth c Hm locs cells slots lsM Z _ _ _ o4 hC hx hb hF kk => ?_) (kt hxy)
    have hx1 : InR x := vok_hd (vok_tl o4)
    have hy1 : InR y := vok_hd o4
    exact lv_icmp_ne hx hb hd ht (fun _ => kk) (fun h => absurd ((i_eq hx1 hy1).mp h) hxy)
  · refine e_go (fun _ _ h => vok_tl (vok_tl h)) (fun p l e Rm s m args below meth c Hm locs cells slots lsM Z _ _ _ o4 hC hx hb hF kk => ?_) (kf hxy)
    have hx1 : InR x := vok_hd (vok_tl o4)
    have hy1 : InR y := vok_hd o4
    exact lv_icmp_ne hx hb hd ht (fun h => absurd ((not_congr (i_eq hx1 hy1)).mp h) hxy) (fun _ => kk)
theorem e_icmp_lt {x y off : Int} {tgt : Nat} (hd : decode (mC μ) pc = .ok (.if_icmp .lt off, 3)) (ht : (pc : Int) + off = (tgt : Int)) (kt : x < y → E G μ tgt ls st S I R Q) (kf : ¬ (x < y) → E G μ (pc + 3) ls st S I R Q) : E G μ pc ls (vI y :: vI x :: st) S I R Q := by
  by_cases hxy : x < y
  · refine e_go (fun _ _ h => vok_tl (vok_tl h)) (fun p l e Rm s m args below meth c Hm locs cells slots lsM Z _ _ _ o4 hC hx hb hF kk => ?_) (kt hxy)
    have hx1 : InR x := vok_hd (vok_tl o4)
    have hy1 : InR y := vok_hd o4
    exact lv_icmp_lt hx hb hd ht (fun _ => kk) (fun h => absurd ((i_lt hx1 hy1).mpr hxy) h)
  · refine e_go (fun _ _ h => vok_tl (vok_tl h)) (fun p l e Rm s m args below meth c Hm locs cells slots lsM Z _ _ _ o4 hC hx hb hF kk => ?_) (kf hxy)
    have hx1 : InR x := vok_hd (vok_tl o4)
    have hy1 : InR y := vok_hd o4
    exact lv_icmp_lt hx hb hd ht (fun h => absurd ((i_lt hx1 hy1).mp h) hxy) (fun _ => kk)
theorem e_icmp_ge {x y off : Int} {tgt : Nat} (hd : decode (mC μ) pc = .ok (.if_icmp .ge off, 3)) (ht : (pc : Int) + off = (tgt : Int)) (kt : y ≤ x → E G μ tgt ls st S I R Q) (kf : ¬ (y ≤ x) → E G μ (pc + 3) ls st S I R Q) : E G μ pc ls (vI y :: vI x :: st) S I R Q := by
  by_cases hxy : y ≤ x
  · refine e_go (fun _ _ h => vok_tl (vok_tl h)) (fun p l e Rm s m args below meth c Hm locs cells slots lsM Z _ _ _ o4 hC hx hb hF kk => ?_) (kt hxy)
    have hx1 : InR x := vok_hd (vok_tl o4)
    have hy1 : InR y := vok_hd o4
    exact lv_icmp_ge hx hb hd ht (fun _ => kk) (fun h => absurd ((i_le hy1 hx1).mpr hxy) h)
  · refine e_go (fun _ _ h => vok_tl (vok_tl h)) (fun p l e Rm s m args below meth c Hm locs cells slots lsM Z _ _ _ o4 hC hx hb hF kk => ?_) (kf hxy)
    have hx1 : InR x := vok_hd (vok_tl o4)
    have hy1 : InR y := vok_hd o4
    exact lv_icmp_ge hx hb hd ht (fun h => absurd ((i_le hy1 hx1).mp h) hxy) (fun _ => kk)
theorem e_icmp_gt {x y off : Int} {tgt : Nat} (hd : decode (mC μ) pc = .ok (.if_icmp .gt off, 3)) (ht : (pc : Int) + off = (tgt : Int)) (kt : y < x → E G μ tgt ls st S I R Q) (kf : ¬ (y < x) → E G μ (pc + 3) ls st S I R Q) : E G μ pc ls (vI y :: vI x :: st) S I R Q := by
  by_cases hxy : y < x
  · refine e_go (fun _ _ h => vok_tl (vok_tl h)) (fun p l e Rm s m args below meth c Hm locs cells slots lsM Z _ _ _ o4 hC hx hb hF kk => ?_) (kt hxy)
    have hx1 : InR x := vok_hd (vok_tl o4)
    have hy1 : InR y := vok_hd o4
    exact lv_icmp_gt hx hb hd ht (fun _ => kk) (fun h => absurd ((i_lt hy1 hx1).mpr hxy) h)
  · refine e_go (fun _ _ h => vok_tl (vok_tl h)) (fun p l e Rm s m args below meth c Hm locs cells slots lsM Z _ _ _ o4 hC hx hb hF kk => ?_) (kf hxy)
    have hx1 : InR x := vok_hd (vok_tl o4)
    have hy1 : InR y := vok_hd o4
    exact lv_icmp_gt hx hb hd ht (fun h => absurd ((i_lt hy1 hx1).mp h) hxy) (fun _ => kk)
theorem e_icmp_le {x y off : Int} {tgt : Nat} (hd : decode (mC μ) pc = .ok (.if_icmp .le off, 3)) (ht : (pc : Int) + off = (tgt : Int)) (kt : x ≤ y → E G μ tgt ls st S I R Q) (kf : ¬ (x ≤ y) → E G μ (pc + 3) ls st S I R Q) : E G μ pc ls (vI y :: vI x :: st) S I R Q := by
  by_cases hxy : x ≤ y
  · refine e_go (fun _ _ h => vok_tl (vok_tl h)) (fun p l e Rm s m args below meth c Hm locs cells slots lsM Z _ _ _ o4 hC hx hb hF kk => ?_) (kt hxy)
    have hx1 : InR x := vok_hd (vok_tl o4)
    have hy1 : InR y := vok_hd o4
    exact lv_icmp_le hx hb hd ht (fun _ => kk) (fun h => absurd ((i_le hx1 hy1).mpr hxy) h)
  · refine e_go (fun _ _ h => vok_tl (vok_tl h)) (fun p l e Rm s m args below meth c Hm locs cells slots lsM Z _ _ _ o4 hC hx hb hF kk => ?_) (kf hxy)
    have hx1 : InR x := vok_hd (vok_tl o4)
    have hy1 : InR y := vok_hd o4
    exact lv_icmp_le hx hb hd ht (fun h => absurd ((i_le hx1 hy1).mp h) hxy) (fun _ => kk)
theorem e_if_eq {x off : Int} {tgt : Nat} (hd : decode (mC μ) pc = .ok (.ifCond .eq off, 3)) (ht : (pc : Int) + off = (tgt : Int)) (kt : x = 0 → E G μ tgt ls st S I R Q) (kf : ¬ (x = 0) → E G μ (pc + 3) ls st S I R Q) : E G μ pc ls (vI x :: st) S I R Q := by
  by_cases hxy : x = 0
  · refine e_go (fun _ _ h => vok_tl h) (fun p l e Rm s m args below meth c Hm locs cells slots lsM Z _ _ _ o4 hC hx hb hF kk => ?_) (kt hxy)
    have hx1 : InR x := vok_hd o4
    exact lv_if_eq hx hb hd ht (fun _ => kk) (fun h => absurd ((i_eq hx1 InR0).mpr hxy) h)
  · refine e_go (fun _ _ h => vok_tl h) (fun p l e Rm s m args below meth c Hm locs cells slots lsM Z _ _ _ o4 hC hx hb hF kk => ?_) (kf hxy)
    have hx1 : InR x := vok_hd o4
    exact lv_if_eq hx hb hd ht (fun h => absurd ((i_eq hx1 InR0).mp h) hxy) (fun _ => kk)
theorem e_if_ne {x off : Int} {tgt : Nat} (hd : decode (mC μ) pc = .ok (.ifCond .ne off, 3)) (ht : (pc : Int) + off = (tgt : Int)) (kt : x ≠ 0 → E G μ tgt ls st S I R Q) (kf : ¬ (x ≠ 0) → E G μ (pc + 3) ls st S I R Q) : E G μ pc ls (vI x :: st) S I R Q := by
  by_cases hxy : x ≠ 0
  · refine e_go (fun _ _ h => vok_tl h) (fun p l e Rm s m args below meth c Hm locs cells slots lsM Z _ _ _ o4 hC hx hb hF kk => ?_) (kt hxy)
    have hx1 : InR x := vok_hd o4
    exact lv_if_ne hx hb hd ht (fun _ => kk) (fun h => absurd ((i_eq hx1 InR0).mp h) hxy)
  · refine e_go (fun _ _ h => vok_tl h) (fun p l e Rm s m args below meth c Hm locs cells slots lsM Z _ _ _ o4 hC hx hb hF kk => ?_) (kf hxy)
    have hx1 : InR x := vok_hd o4
    exact lv_if_ne hx hb hd ht (fun h => absurd ((not_congr (i_eq hx1 InR0)).mp h) hxy) (fun _ => kk)
theorem e_if_lt {x off : Int} {tgt : Nat} (hd : decode (mC μ) pc = .ok (.ifCond .lt off, 3)) (ht : (pc : Int) + off = (tgt : Int)) (kt : x < 0 → E G μ tgt ls st S I R Q) (kf : ¬ (x < 0) → E G μ (pc + 3) ls st S I R Q) : E G μ pc ls (vI x :: st) S I R Q := by
  by_cases hxy : x < 0
  · refine e_go (fun _ _ h => vok_tl h) (fun p l e Rm s m args below meth c Hm locs cells slots lsM Z _ _ _ o4 hC hx hb hF kk => ?_) (kt hxy)
    have hx1 : InR x := vok_hd o4
    exact lv_if_lt hx hb hd ht (fun _ => kk) (fun h => absurd ((i_lt hx1 InR0).mpr hxy) h)
  · refine e_go (fun _ _ h => vok_tl h) (fun p l e Rm s m args below meth c Hm locs cells slots lsM Z _ _ _ o4 hC hx hb hF kk => ?_) (kf hxy)
    have hx1 : InR x := vok_hd o4
    exact lv_if_lt hx hb hd ht (fun h => absurd ((i_lt hx1 InR0).mp h) hxy) (fun _ => kk)
theorem e_if_ge {x off : Int} {tgt : Nat} (hd : decode (mC μ) pc = .ok (.ifCond .ge off, 3)) (ht : (pc : Int) + off = (tgt : Int)) (kt : 0 ≤ x → E G μ tgt ls st S I R Q) (kf : ¬ (0 ≤ x) → E G μ (pc + 3) ls st S I R Q) : E G μ pc ls (vI x :: st) S I R Q := by
  by_cases hxy : 0 ≤ x
  · refine e_go (fun _ _ h => vok_tl h) (fun p l e Rm s m args below meth c Hm locs cells slots lsM Z _ _ _ o4 hC hx hb hF kk => ?_) (kt hxy)
    have hx1 : InR x := vok_hd o4
    exact lv_if_ge hx hb hd ht (fun _ => kk) (fun h => absurd ((i_le InR0 hx1).mpr hxy) h)
  · refine e_go (fun _ _ h => vok_tl h) (fun p l e Rm s m args below meth c Hm locs cells slots lsM Z _ _ _ o4 hC hx hb hF kk => ?_) (kf hxy)
    have hx1 : InR x := vok_hd o4
    exact lv_if_ge hx hb hd ht (fun h => absurd ((i_le InR0 hx1).mp h) hxy) (fun _ => kk)
theorem e_if_gt {x off : Int} {tgt : Nat} (hd : decode (mC μ) pc = .ok (.ifCond .gt off, 3)) (ht : (pc : Int) + off = (tgt : Int)) (kt : 0 < x → E G μ tgt ls st S I R Q) (kf : ¬ (0 < x) → E G μ (pc + 3) ls st S I R Q) : E G μ pc ls (vI x :: st) S I R Q := by
  by_cases hxy : 0 < x
  · refine e_go (fun _ _ h => vok_tl h) (fun p l e Rm s m args below meth c Hm locs cells slots lsM Z _ _ _ o4 hC hx hb hF kk => ?_) (kt hxy)
    have hx1 : InR x := vok_hd o4
    exact lv_if_gt hx hb hd ht (fun _ => kk) (fun h => absurd ((i_lt InR0 hx1).mpr hxy) h)
  · refine e_go (fun _ _ h => vok_tl h) (fun p l e Rm s m args below meth c Hm locs cells slots lsM Z _ _ _ o4 hC hx hb hF kk => ?_) (kf hxy)
    have hx1 : InR x := vok_hd o4
    exact lv_if_gt hx hb hd ht (fun h => absurd ((i_lt InR0 hx1).mp h) hxy) (fun _ => kk)
theorem e_if_le {x off : Int} {tgt : Nat} (hd : decode (mC μ) pc = .ok (.ifCond .le off, 3)) (ht : (pc : Int) + off = (tgt : Int)) (kt : x ≤ 0 → E G μ tgt ls st S I R Q) (kf : ¬ (x ≤ 0) → E G μ (pc + 3) ls st S I R Q) : E G μ pc ls (vI x :: st) S I R Q := by
  by_cases hxy : x ≤ 0
  · refine e_go (fun _ _ h => vok_tl h) (fun p l e Rm s m args below meth c Hm locs cells slots lsM Z _ _ _ o4 hC hx hb hF kk => ?_) (kt hxy)
    have hx1 : InR x := vok_hd o4
    exact lv_if_le hx hb hd ht (fun _ => kk) (fun h => absurd ((i_le hx1 InR0).mpr hxy) h)
  · refine e_go (fun _ _ h => vok_tl h) (fun p l e Rm s m args below meth c Hm locs cells slots lsM Z _ _ _ o4 hC hx hb hF kk => ?_) (kf hxy)
    have hx1 : InR x := vok_hd o4
    exact lv_if_le hx hb hd ht (fun h => absurd ((i_le hx1 InR0).mp h) hxy) (fun _ => kk)
theorem e_tabOut {dflt lo hi : Int} {offs : Array Int} {len : Nat} {x : Int} {tgt : Nat} (hd : decode (mC μ) pc = .ok (.tableswitch dflt lo hi offs, len)) (h : x < lo ∨ hi < x) (ht : (pc : Int) + dflt = (tgt : Int)) (k : E G μ tgt ls st S I R Q) : E G μ pc ls (vI x :: st) S I R Q :=
  e_go (fun _ _ h => vok_tl h) (fun p l e Rm s m args below meth c Hm locs cells slots lsM Z _ _ _ o4 hC hx hb hF kk => lv_tableOut hx hb hd (by rw [o32 (vok_hd o4)]; exact h) ht kk) k
theorem e_tabIn {dflt lo hi : Int} {offs : Array Int} {len : Nat} {x off : Int} {tgt : Nat} (hd : decode (mC μ) pc = .ok (.tableswitch dflt lo hi offs, len)) (y : Int) (e : x = y) (h : lo ≤ y ∧ y ≤ hi) (ho : offs[(y - lo).toNat]? = some off) (ht : (pc : Int) + off = (tgt : Int)) (k : E G μ tgt ls st S I R Q) : E G μ pc ls (vI x :: st) S I R Q := by
  subst e
  exact e_go (fun _ _ h => vok_tl h) (fun p l e Rm s m args below meth c Hm locs cells slots lsM Z _ _ _ o4 hC hx hb hF kk => lv_tableIn hx hb hd (by rw [o32 (vok_hd o4)]; omega) (by rw [o32 (vok_hd o4)]; omega) (by rw [o32 (vok_hd o4)]; exact ho) ht kk) k
theorem e_ifnull {r : Nat} {off : Int} {tgt : Nat} (hd : decode (mC μ) pc = .ok (.ifnull off, 3)) (ht : (pc : Int) + off = (tgt : Int)) (kt : r = 0 → E G μ tgt ls st S I R Q) (kf : ¬ r = 0 → E G μ (pc + 3) ls st S I R Q) : E G μ pc ls (vR r :: st) S I R Q := by
  cases r with
  | zero => exact e_go (fun _ _ h => vok_tl h) (fun p l e Rm s m args below meth c Hm locs cells slots lsM Z _ _ _ o4 hC hx hb hF kk => lv_ifnullN hx hb hd ht kk) (kt rfl)
  | succ r => exact e_go (fun _ _ h => vok_tl h) (fun p l e Rm s m args below meth c Hm locs cells slots lsM Z _ _ _ o4 hC hx hb hF kk => lv_ifnull hx hb hd kk) (kf (by omega))
theorem e_ifnonnull {r : Nat} {off : Int} {tgt : Nat} (hd : decode (mC μ) pc = .ok (.ifnonnull off, 3)) (ht : (pc : Int) + off = (tgt : Int)) (kt : ¬ r = 0 → E G μ tgt ls st S I R Q) (kf : r = 0 → E G μ (pc + 3) ls st S I R Q) : E G μ pc ls (vR r :: st) S I R Q := by
  cases r with
  | zero => exact e_go (fun _ _ h => vok_tl h) (fun p l e Rm s m args below meth c Hm locs cells slots lsM Z _ _ _ o4 hC hx hb hF kk => lv_ifnonnullN hx hb hd kk) (kf rfl)
  | succ r => exact e_go (fun _ _ h => vok_tl h) (fun p l e Rm s m args below meth c Hm locs cells slots lsM Z _ _ _ o4 hC hx hb hF kk => lv_ifnonnull hx hb hd ht kk) (kt (by omega))
end HP
-- two-step maps
def up1 {α : Type} (f : Nat → α) (k : Nat) (v : α) : Nat → α := fun j => if j = k then v else f j
def up2 {α : Type} (f : Nat → Nat → α) (a k : Nat) (v : α) : Nat → Nat → α := up1 f a (up1 (f a) k v)
theorem up1_s {α : Type} (f : Nat → α) (k : Nat) (v : α) : up1 f k v k = v := if_pos rfl
theorem up1_n {α : Type} {f : Nat → α} {k j : Nat} {v : α} (h : j ≠ k) : up1 f k v j = f j := if_neg h
theorem up2_s {α : Type} (f : Nat → Nat → α) (a k : Nat) (v : α) : up2 f a k v a = up1 (f a) k v := if_pos rfl
theorem up2_n {α : Type} {f : Nat → Nat → α} {a b k : Nat} {v : α} (h : b ≠ a) : up2 f a k v b = f b := if_neg h
theorem up2_ss {α : Type} (f : Nat → Nat → α) (a k : Nat) (v : α) : up2 f a k v a k = v := by rw [up2_s, up1_s]
theorem up2_sn {α : Type} {f : Nat → Nat → α} {a k j : Nat} {v : α} (h : j ≠ k) : up2 f a k v a j = f a j := by rw [up2_s, up1_n h]
-- the classes of the world
def clT (ci : Nat) : u_T := match ci with
  | 0 => TX0 | 1 => TX1 | 2 => TX2 | 3 => TX4 | 4 => TX5 | 5 => TX6 | 6 => TX7 | 7 => TX8 | 8 => TX9 | 9 => TJ0 | _ => TJ4
def clC (ci : Nat) : String := match ci with
  | 0 => RX0 | 1 => RX1 | 2 => RX2 | 3 => RX4 | 4 => RX5 | 5 => RX6 | 6 => RX7 | 7 => RX8 | 8 => RX9 | 9 => RJ0 | _ => RJ4
def clOK (ci : Nat) : Prop := vwCl[ci]? = some (clC ci, clT ci, clN ci) ∧ (∀ w ∈ u_ws (clC ci) (clT ci) (clN ci), w ∈ lw_t2) ∧ (∀ k, k < clN ci → parseFieldDescriptor (clT ci k).2.2.1 = some (clTy ci k)) ∧ (∀ a, a < clN ci → ∀ b, b < clN ci → a ≠ b → (clT ci a).2.1 ≠ (clT ci b).2.1)
theorem clOK_0 : clOK 0 := ⟨rfl, by decide +kernel, tyX0_ok, nmX0⟩
theorem clOK_1 : clOK 1 := ⟨rfl, by decide +kernel, tyX1_ok, nmX1⟩
theorem clOK_2 : clOK 2 := ⟨rfl, by decide +kernel, tyX2_ok, nmX2⟩
theorem clOK_3 : clOK 3 := ⟨rfl, by decide +kernel, tyX4_ok, nmX4⟩
theorem clOK_4 : clOK 4 := ⟨rfl, by decide +kernel, tyX5_ok, nmX5⟩
theorem clOK_5 : clOK 5 := ⟨rfl, by decide +kernel, tyX6_ok, nmX6⟩
theorem clOK_6 : clOK 6 := ⟨rfl, by decide +kernel, tyX7_ok, nmX7⟩
theorem clOK_7 : clOK 7 := ⟨rfl, by decide +kernel, tyX8_ok, nmX8⟩
theorem clOK_8 : clOK 8 := ⟨rfl, by decide +kernel, tyX9_ok, nmX9⟩
theorem clOK_9 : clOK 9 := ⟨rfl, by decide +kernel, tyJ0_ok, nmJ0⟩
theorem clOK_10 : clOK 10 := ⟨rfl, by decide +kernel, tyJ4_ok, nmJ4⟩
theorem clOK_all : ∀ ci, ci < 11 → clOK ci
  | 0, _ => clOK_0 | 1, _ => clOK_1 | 2, _ => clOK_2 | 3, _ => clOK_3 | 4, _ => clOK_4 | 5, _ => clOK_5 | 6, _ => clOK_6 | 7, _ => clOK_7 | 8, _ => clOK_8 | 9, _ => clOK_9 | 10, _ => clOK_10
  | n + 11, h => by omega
/-- a place of the pool that names field k of class ci -/
def FLk (own : String) (idx ci k : Nat) : Prop := ci < 11 ∧ k < clN ci ∧ Cond.fieldLink own idx (clT ci k).1 (clT ci k).2.1 (clT ci k).2.2.1 ∈ lw_t2
def tk (ty : FieldType) : Nat := match ty with
  | .int => 0 | .boolean => 0 | .byte => 0 | .long => 1 | .object _ => 2 | .array _ => 2 | _ => 3
theorem irng_of_tk {ty : FieldType} {x : Int} (h : tk ty = 0) (hx : irng ty x) : InR x := by
  cases ty with
  | int => exact hx
  | boolean => rcases hx with rfl | rfl <;> unfold InR <;> omega
  | byte => unfold irng at hx; unfold InR; omega
  | _ => cases h
theorem ety_cls {ci k : Nat} (h : ci < 11) : ety (ci + 1) k = clTy ci k := by
  unfold ety
  rw [if_pos (by omega), Nat.add_sub_cancel]
theorem cellE_cls (G : Gl) {ci : Nat} (h : ci < 11) (len : Nat) (x : Nat → Int) (r : Nat → Nat) : cellE G (ci + 1) len x r = .inr (ci, (List.range (clN ci)).map (fun j => fval G (clTy ci j) (x j) (r j))) := by
  unfold cellE
  rw [if_pos (by omega), Nat.add_sub_cancel]
theorem fvals_at (G : Gl) {ci k : Nat} (h : k < clN ci) (x : Nat → Int) (r : Nat → Nat) : ((List.range (clN ci)).map (fun j => fval G (clTy ci j) (x j) (r j)))[k]? = some (fval G (clTy ci k) (x k) (r k)) := by
  rw [List.getElem?_map, List.getElem?_range h]; rfl
theorem fvals_set (G : Gl) {ci k : Nat} (x x' : Nat → Int) (r r' : Nat → Nat) {v : Value} (hv : v = fval G (clTy ci k) (x' k) (r' k)) (hx : ∀ j, j ≠ k → x' j = x j) (hr : ∀ j, j ≠ k → r' j = r j) :
    ((List.range (clN ci)).map (fun j => fval G (clTy ci j) (x j) (r j))).set k v = (List.range (clN ci)).map (fun j => fval G (clTy ci j) (x' j) (r' j)) := by
  apply List.ext_getElem?
  intro j
  by_cases hj : j = k
  · subst hj
    by_cases hl : j < clN ci
    · rw [List.getElem?_set_self (by simpa using hl), fvals_at G hl, hv]
    · rw [List.getElem?_eq_none (by simp; omega), List.getElem?_eq_none (by simp; omega)]
  · rw [List.getElem?_set_ne (Ne.symm hj)]
    by_cases hl : j < clN ci
    · rw [fvals_at G hl, fvals_at G hl, hx j hj, hr j hj]
    · rw [List.getElem?_eq_none (by simp; omega), List.getElem?_eq_none (by simp; omega)]
theorem tag_in {S : Sh} {a t : Nat} (h : okS S) (ht : sT S a = t + 1) : 1 ≤ a ∧ a < sN S := ⟨(h.2 a (by omega)).1, (h.2 a (by omega)).2.1⟩
theorem okI_up {S : Sh} {I : MI} {a k : Nat} {x : Int} (h : okI S I) (hx : irng (ety (sT S a) k) x) : okI S (up2 I a k x) := by
  intro b j
  by_cases hb : b = a
  · subst hb
    by_cases hj : j = k
    · subst hj; rw [up2_ss]; exact hx
    · rw [up2_sn hj]; exact h b j
  · rw [up2_n hb]; exact h b j
section PV1
variable {p : Program} {l : Launch} {e : Env} {R : Room} {s : State} {m : MethodId} {args : Array Value} {below : List Frame} {meth : Method} {c : Code} {H : Heap} {locs : List Loc} {cells slots : Nat} {Q : State → Prop}
variable {cc : ByteArray} {pc : Nat} {ls : Array Slot} {rest : List Value} {D : va_G} {cl : List vw_C} {A : Nat → Prop} {a : Nat} {tys : List (ClassId × FieldType)} {ws : va_W} {H0 : Heap}
/-- a field is written: the size of the heap stays (the kit's row, with that said) -/
theorem pv_put (hexec : p.tables.exec = Jvm.exec) (hb : c.code = cc) {own C : String} {T : u_T} {N ci index : Nat} {Ts : List Cond} (hts : ∀ w ∈ Ts, w.before args s = true) (hin : ∀ w ∈ u_ws C T N, w ∈ Ts) (ty0 : Nat → FieldType) (hty : ∀ k, k < N → parseFieldDescriptor (T k).2.2.1 = some (ty0 k)) (hnm : ∀ a, a < N → ∀ b, b < N → a ≠ b → (T a).2.1 ≠ (T b).2.1) (hown : s.vm.findClass own = some m.cls) (hK : va_K D cl tys s) (hP : va_P D cl ws H) (hD : va_D A ws) (hS0 : va_S A H0 H locs) (q0 : Nat) {fs : List Value} (he : ws[q0]? = some (a, .inr (ci, fs))) (hc : cl[ci]? = some (C, T, N)) (k : Nat) (hk : k < N) (hlink : (Cond.fieldLink own index (T k).1 (T k).2.1 (T k).2.2.1).before args s = true) (hfin : (T k).2.2.2 = false ∨ ((T k).2.2.2 = true ∧ meth.name = "<init>" ∧ (T k).1 = own)) {ty : FieldType} {v : Value} (hd : parseFieldDescriptor (T k).2.2.1 = some ty) (hn : narrow ty v = v) (hfit : fits ty v = true) (hl : k < fs.length)
    (hdg : decode cc pc = .ok (.putfield index, 3)) (kk : ∀ (H1 : Heap) (locs1 : List Loc), H1.size = H.size → va_P D cl (ws.set q0 (a, .inr (ci, fs.set k v))) H1 → va_S A H0 H1 locs1 → W p l e R s m args below meth c H1 locs1 cells slots Q (F0 m (pc + 3) ls rest)) : W p l e R s m args below meth c H locs cells slots Q (F0 m pc ls (v :: .ref a :: rest)) := by
  have hap := va_apart (own := own) hts hin ty0 hty hnm hK hc
  obtain ⟨r, h1, cell, q1, q2, q3, q4⟩ := hP q0 _ he
  have hr : r = (C, T, N) := Option.some.inj (h1.symm.trans hc)
  subst hr
  obtain ⟨hS, hfc, kC, hkC, hkind⟩ := hK.1 ci _ hc
  obtain ⟨cf, kf, fi, f, hi, hsl⟩ := hS k hk
  have hlay := hts _ (hin _ (u_in_lay hk))
  unfold u_lay at hlay
  have hst := (u_facts hfc hkC (u_lays hts hin hk) hi).1
  rcases hfin with hfin | ⟨hfin, hin2, hdecl⟩
  · rw [if_neg (by rw [hfin]; decide)] at hlay
    have h6 := u_store hfc hkC hkind hlay hi hd hn hfit
    refine W.putK hexec hb (f := f) ⟨hown, hlink, ⟨_, _, _, hi⟩, hst⟩ (by rw [q2]; exact h6) q1 q3 (by rw [hsl]; exact k2_hasslot (q4 k hk)) rfl rfl hdg fun H' e1 e2 e3 => ?_
    rw [hsl] at e1 ⊢
    exact kk H' _ e2 (hP.set hD he ⟨_, hc, t_OB.to (V := updV (vp_V fs) k v) ⟨_, e1, q2, q3, t_set q4 hap hk v⟩ (fun j _ => vp_updV_set hl v j)⟩ e3) (hS0.put e2 e3 (hD.2 q0 _ he))
  · rw [if_pos hfin] at hlay
    have hcf : m.cls = cf := by
      obtain ⟨_, _, c', _, _, _, -, -, hf', -, -, -, hown2, -⟩ := Cond.laysFinal_spec hlay
      have e1 : c' = cf := by have := hi.symm.trans hf'; simp at this; exact this.1.symm
      rw [hdecl] at hown2
      rw [← e1]; exact Option.some.inj (hown.symm.trans hown2)
    have h6 := u_fits hfc hkC hkind (Or.inr hlay) hi hd hn hfit
    refine W.putFinK hexec hb hown hlink hi hst hcf hin2 (by rw [q2]; exact h6) q1 q3 (by rw [hsl]; exact k2_hasslot (q4 k hk)) rfl rfl hdg fun H' e1 e2 e3 => ?_
    rw [hsl] at e1 ⊢
    exact kk H' _ e2 (hP.set hD he ⟨_, hc, t_OB.to (V := updV (vp_V fs) k v) ⟨_, e1, q2, q3, t_set q4 hap hk v⟩ (fun j _ => vp_updV_set hl v j)⟩ e3) (hS0.put e2 e3 (hD.2 q0 _ he))
end PV1
section FL
variable {G : Gl} {μ : MB} {pc pc2 : Nat} {ls ls2 : Lc} {st st2 : List PV} {S S2 : Sh} {I I2 : MI} {R R2 : MR} {Q : PQ} {idx ci f a : Nat}
theorem e_get {v : PV} (hd : decode (mC μ) pc = .ok (.getfield idx, 3)) (hf : FLk (mO μ) idx ci f) (ht : sT S a = ci + 1) (hv : mv G v = fval G (clTy ci f) (I a f) (R a f)) (hok : okI S I → vok v) (k : E G μ (pc + 3) ls (v :: st) S I R Q) : E G μ pc ls (vR a :: st) S I R Q := by
  refine e_go (fun o _ h => vok_cons (hok o) (vok_tl h)) (fun p l e Rm s m args below meth c Hm locs cells slots lsM Z o1 _ _ _ hC hx hb hF kk => ?_) k
  obtain ⟨h1, h2⟩ := tag_in o1 ht
  obtain ⟨hci, hfk, hl⟩ := hf
  obtain ⟨hc, hin, hty, hnm⟩ := clOK_all ci hci
  have hw := wsOf_get G I R h1 h2
  rw [ht, cellE_cls G hci] at hw
  rw [List.map_cons] at kk
  rw [List.map_cons, mv_ref G h1]
  exact va_get (ref := (clT ci f).1) hx hb hC.2.2.2.2.1 hin hC.2.2.2.1 hC.2.2.2.2.2.2.2.2.1 hF.2.1.1 (a - 1) hw hc f hfk (hC.2.2.2.2.1 _ hl) (fun x h => h) (by rw [fvals_at G hfk, ← hv]) hd kk
theorem e_getI (hd : decode (mC μ) pc = .ok (.getfield idx, 3)) (hf : FLk (mO μ) idx ci f) (hk : tk (clTy ci f) = 0) (ht : sT S a = ci + 1) (k : E G μ (pc + 3) ls (vI (I a f) :: st) S I R Q) : E G μ pc ls (vR a :: st) S I R Q := by
  refine e_get (v := vI (I a f)) hd hf ht ?_ (fun o => ?_) k
  · generalize clTy ci f = ty at hk
    cases ty <;> first | rfl | cases hk
  · have := o a f
    rw [ht, ety_cls hf.1] at this
    exact irng_of_tk hk this
theorem e_getL (hd : decode (mC μ) pc = .ok (.getfield idx, 3)) (hf : FLk (mO μ) idx ci f) (hk : clTy ci f = .long) (ht : sT S a = ci + 1) (k : E G μ (pc + 3) ls (vL (I a f) :: st) S I R Q) : E G μ pc ls (vR a :: st) S I R Q := by
  refine e_get (v := vL (I a f)) hd hf ht (by rw [hk]; rfl) (fun o => ?_) k
  have := o a f
  rw [ht, ety_cls hf.1, hk] at this
  exact this
theorem e_getR (hd : decode (mC μ) pc = .ok (.getfield idx, 3)) (hf : FLk (mO μ) idx ci f) (hk : tk (clTy ci f) = 2) (ht : sT S a = ci + 1) (k : E G μ (pc + 3) ls (vR (R a f) :: st) S I R Q) : E G μ pc ls (vR a :: st) S I R Q := by
  refine e_get (v := vR (R a f)) hd hf ht ?_ (fun _ => trivial) k
  generalize clTy ci f = ty at hk
  cases ty <;> first | rfl | cases hk
abbrev FinOK (μ : MB) (ci f : Nat) : Prop := (clT ci f).2.2.2 = false ∨ ((clT ci f).2.2.2 = true ∧ (mY μ).name = "<init>" ∧ (clT ci f).1 = mO μ)
theorem e_put {v : PV} (hd : decode (mC μ) pc = .ok (.putfield idx, 3)) (hf : FLk (mO μ) idx ci f) (hfin : FinOK μ ci f) (ht : sT S a = ci + 1)
    (hI : ∀ b, b ≠ a → I2 b = I b) (hR : ∀ b, b ≠ a → R2 b = R b) (hIa : ∀ j, j ≠ f → I2 a j = I a j) (hRa : ∀ j, j ≠ f → R2 a j = R a j)
    (hv : mv G v = fval G (clTy ci f) (I2 a f) (R2 a f)) (hok : okI S I → vok v → okI S I2) (hn : okI S I → vok v → narrow (clTy ci f) (mv G v) = mv G v ∧ fits (clTy ci f) (mv G v) = true)
    (k : E G μ (pc + 3) ls st S I2 R2 Q) : E G μ pc ls (v :: vR a :: st) S I R Q := by
  refine e_step (Nat.le_refl _) (Nat.le_refl _) (fun o1 o2 o3 o4 => ⟨o1, hok o2 (vok_hd o4), o3, vok_tl (vok_tl o4)⟩) ?_ k
  intro p l e Rm s m args below meth c Hm locs cells slots lsM Z o1 o2 o3 o4 hC hc hs hF kk
  obtain ⟨h1, h2⟩ := tag_in o1 ht
  obtain ⟨hci, hfk, hl⟩ := hf
  obtain ⟨hcl, hin, hty, hnm⟩ := clOK_all ci hci
  have hw := wsOf_get G I R h1 h2
  rw [ht, cellE_cls G hci] at hw
  rw [List.map_cons, List.map_cons, mv_ref G h1]
  have hset := wsOf_set G (S := S) (I := I) (I' := I2) (R := R) (R' := R2) h1 h2 hI hR (e := .inr (ci, (List.range (clN ci)).map (fun j => fval G (clTy ci j) (I2 a j) (R2 a j)))) (by rw [ht, cellE_cls G hci])
  obtain ⟨n1, n2⟩ := hn o2 (vok_hd o4)
  have hfs := fvals_set G (ci := ci) (k := f) (I a) (I2 a) (R a) (R2 a) hv hIa hRa
  refine pv_put hC.1 hC.2.1 hC.2.2.2.2.1 hin (clTy ci) hty hnm hC.2.2.2.1 hC.2.2.2.2.2.2.2.2.1 hF.2.1.1 (wsOf_D G S I R) hF.2.2 (a - 1) hw hcl f hfk (hC.2.2.2.2.1 _ hl) ?_ (hty f hfk) n1 n2 (by simpa using hfk) hd (fun H1 locs1 g3 g1 g2 => ?_)
  · rcases hfin with h | ⟨q1, q2, q3⟩
    · exact Or.inl h
    · exact Or.inr ⟨q1, hC.2.2.2.2.2.2.2.1 q2, q3⟩
  · rw [hfs, hset] at g1
    have := kk H1 locs1 lsM ⟨hF.1, ⟨g1, g3.trans hF.2.1.2⟩, g2⟩
    simpa using this
theorem e_putI {x : Int} (hd : decode (mC μ) pc = .ok (.putfield idx, 3)) (hf : FLk (mO μ) idx ci f) (hk : clTy ci f = .int) (hfin : FinOK μ ci f) (ht : sT S a = ci + 1) (k : E G μ (pc + 3) ls st S (up2 I a f x) R Q) : E G μ pc ls (vI x :: vR a :: st) S I R Q := by
  refine e_put hd hf hfin ht (fun b h => up2_n h) (fun _ _ => rfl) (fun j h => up2_sn h) (fun _ _ => rfl) ?_ (fun o v => ?_) (fun o v => ?_) k
  · rw [hk, up2_ss]; rfl
  · exact okI_up o (by rw [ht, ety_cls hf.1, hk]; exact v)
  · rw [hk]; exact ⟨rfl, rfl⟩
theorem e_putB {x : Int} (hd : decode (mC μ) pc = .ok (.putfield idx, 3)) (hf : FLk (mO μ) idx ci f) (hk : clTy ci f = .byte) (hfin : FinOK μ ci f) (ht : sT S a = ci + 1) (hx : x = 0 ∨ x = 1) (k : E G μ (pc + 3) ls st S (up2 I a f x) R Q) : E G μ pc ls (vI x :: vR a :: st) S I R Q := by
  refine e_put hd hf hfin ht (fun b h => up2_n h) (fun _ _ => rfl) (fun j h => up2_sn h) (fun _ _ => rfl) ?_ (fun o v => ?_) (fun o v => ?_) k
  · rw [hk, up2_ss]; rfl
  · exact okI_up o (by rw [ht, ety_cls hf.1, hk]; show -128 ≤ x ∧ x < 128; omega)
  · rw [hk]; rcases hx with rfl | rfl <;> exact ⟨rfl, rfl⟩
theorem e_putZ {x : Int} (hd : decode (mC μ) pc = .ok (.putfield idx, 3)) (hf : FLk (mO μ) idx ci f) (hk : clTy ci f = .boolean) (hfin : FinOK μ ci f) (ht : sT S a = ci + 1) (hx : x = 0 ∨ x = 1) (k : E G μ (pc + 3) ls st S (up2 I a f x) R Q) : E G μ pc ls (vI x :: vR a :: st) S I R Q := by
  refine e_put hd hf hfin ht (fun b h => up2_n h) (fun _ _ => rfl) (fun j h => up2_sn h) (fun _ _ => rfl) ?_ (fun o v => ?_) (fun o v => ?_) k
  · rw [hk, up2_ss]; rfl
  · exact okI_up o (by rw [ht, ety_cls hf.1, hk]; exact hx)
  · rw [hk]; rcases hx with rfl | rfl <;> exact ⟨rfl, rfl⟩
theorem e_putL {x : Int} (hd : decode (mC μ) pc = .ok (.putfield idx, 3)) (hf : FLk (mO μ) idx ci f) (hk : clTy ci f = .long) (hfin : FinOK μ ci f) (ht : sT S a = ci + 1) (k : E G μ (pc + 3) ls st S (up2 I a f x) R Q) : E G μ pc ls (vL x :: vR a :: st) S I R Q := by
  refine e_put hd hf hfin ht (fun b h => up2_n h) (fun _ _ => rfl) (fun j h => up2_sn h) (fun _ _ => rfl) ?_ (fun o v => ?_) (fun o v => ?_) k
  · rw [hk, up2_ss]; rfl
  · exact okI_up o (by rw [ht, ety_cls hf.1, hk]; exact v)
  · rw [hk]; exact ⟨rfl, rfl⟩
theorem e_putR {r : Nat} (hd : decode (mC μ) pc = .ok (.putfield idx, 3)) (hf : FLk (mO μ) idx ci f) (hk : tk (clTy ci f) = 2) (hfin : FinOK μ ci f) (ht : sT S a = ci + 1) (k : E G μ (pc + 3) ls st S I (up2 R a f r) Q) : E G μ pc ls (vR r :: vR a :: st) S I R Q := by
  refine e_put hd hf hfin ht (fun _ _ => rfl) (fun b h => up2_n h) (fun _ _ => rfl) (fun j h => up2_sn h) ?_ (fun o v => o) (fun o v => ?_) k
  · rw [up2_ss]
    generalize clTy ci f = ty at hk
    cases ty <;> first | rfl | cases hk
  · generalize clTy ci f = ty at hk
    cases ty <;> first | (cases r <;> exact ⟨rfl, rfl⟩) | cases hk
end FL
end
section
/-! ===== THE WALK: arrays, new cells ===== -/
def gC (G : Gl) (t : Nat) : ClassId := ((gT G).getD (t - 21) (0, .int)).1
theorem cellE_int (G : Gl) {t : Nat} (h : 21 ≤ t) (h2 : t ≤ 23) (len : Nat) (x : Nat → Int) (r : Nat → Nat) : cellE G t len x r = .inl (gC G t, len, .inl (fun j => Int32.ofInt (x j))) := by
  unfold cellE gC
  rw [if_neg (by omega), if_pos h2]
theorem cellE_ref (G : Gl) {t : Nat} (h : 24 ≤ t) (len : Nat) (x : Nat → Int) (r : Nat → Nat) : cellE G t len x r = .inl (gC G t, len, .inr (.inr (.inr (.inr (fun j => rvo G (r j)))))) := by
  unfold cellE gC
  rw [if_neg (by omega), if_neg (by omega)]
theorem gT_at {G : Gl} (h : (gT G).map Prod.snd = atyL) {t : Nat} {ty : FieldType} (hi : atyL[t - 21]? = some ty) : (gT G)[t - 21]? = some (gC G t, ty) := by
  rw [← h, List.getElem?_map] at hi
  cases hg : (gT G)[t - 21]? with
  | none => rw [hg] at hi; cases hi
  | some q =>
    rw [hg] at hi
    unfold gC
    rw [List.getD_eq_getElem?_getD, hg]
    cases Option.some.inj hi
    rfl
theorem in_of {i : Int} {n : Nat} (hi : InR i) (h : 0 ≤ i ∧ i < (n : Int)) : vp_in (Int32.ofInt i) n := vp_in_iff.mpr (by rw [o32 hi]; exact h)
theorem cl_of {i : Int} (hi : InR i) : (Int32.ofInt i).toNatClampNeg = i.toNat := Int32.toNatClampNeg_ofInt_of_le (by have := hi.1; omega) (by have := hi.2; omega)
section AR
variable {G : Gl} {μ : MB} {pc pc2 : Nat} {ls ls2 : Lc} {st st2 : List PV} {S S2 : Sh} {I I2 : MI} {R R2 : MR} {Q : PQ} {idx ci f a : Nat} {i x : Int}
theorem e_iald (hd : decode (mC μ) pc = .ok (.iaload, 1)) (ht : sT S a = 21) (hi : 0 ≤ i ∧ i < (sL S a : Int)) (k : E G μ (pc + 1) ls (vI (I a i.toNat) :: st) S I R Q) : E G μ pc ls (vI i :: vR a :: st) S I R Q := by
  refine e_go (fun o _ h => vok_cons (v := vI _) (by have := o a i.toNat; rw [ht] at this; exact this) (vok_tl (vok_tl h))) (fun p l e Rm s m args below meth c Hm locs cells slots lsM Z o1 _ _ o4 hC hx hb hF kk => ?_) k
  obtain ⟨h1, h2⟩ := tag_in (t := 20) o1 ht
  have hw := wsOf_get G I R h1 h2
  rw [ht, cellE_int G (by omega) (by omega)] at hw
  rw [List.map_cons] at kk
  rw [List.map_cons, List.map_cons, mv_ref G h1]
  refine va_iald hx hb hC.2.2.2.2.2.2.2.2.1 hF.2.1.1 (a - 1) 0 hw (gT_at (t := 21) hC.2.2.2.2.2.2.2.2.2.1 rfl) (in_of (vok_hd o4) hi) hd ?_
  rw [cl_of (vok_hd o4)]
  exact kk
theorem e_bald (hd : decode (mC μ) pc = .ok (.baload, 1)) (ht : sT S a = 22) (hi : 0 ≤ i ∧ i < (sL S a : Int)) (k : E G μ (pc + 1) ls (vI (I a i.toNat) :: st) S I R Q) : E G μ pc ls (vI i :: vR a :: st) S I R Q := by
  refine e_go (fun o _ h => vok_cons (v := vI _) (by have := o a i.toNat; rw [ht] at this; have : -128 ≤ I a i.toNat ∧ I a i.toNat < 128 := this; show InR _; unfold InR; omega) (vok_tl (vok_tl h))) (fun p l e Rm s m args below meth c Hm locs cells slots lsM Z o1 _ _ o4 hC hx hb hF kk => ?_) k
  obtain ⟨h1, h2⟩ := tag_in (t := 21) o1 ht
  have hw := wsOf_get G I R h1 h2
  rw [ht, cellE_int G (by omega) (by omega)] at hw
  rw [List.map_cons] at kk
  rw [List.map_cons, List.map_cons, mv_ref G h1]
  refine va_bald hx hb hC.2.2.2.2.2.2.2.2.1 hF.2.1.1 (a - 1) 1 hw (gT_at (t := 22) hC.2.2.2.2.2.2.2.2.2.1 rfl) (in_of (vok_hd o4) hi) hd ?_
  rw [cl_of (vok_hd o4)]
  exact kk
theorem e_alen (hd : decode (mC μ) pc = .ok (.arraylength, 1)) (ht : 21 ≤ sT S a) (k : E G μ (pc + 1) ls (vI (sL S a : Int) :: st) S I R Q) : E G μ pc ls (vR a :: st) S I R Q := by
  refine E.ok (fun o1 _ _ _ => ?_)
  refine e_go (fun _ _ h => vok_cons (v := vI _) (by have := (o1.2 a (by omega)).2.2.2; show InR _; unfold InR; omega) (vok_tl h)) (fun p l e Rm s m args below meth c Hm locs cells slots lsM Z o1 _ _ o4 hC hx hb hF kk => ?_) k
  obtain ⟨h1, h2, h3, h4⟩ := o1.2 a (by omega)
  have hw := wsOf_get G I R h1 h2
  rw [List.map_cons] at kk
  rw [List.map_cons, mv_ref G h1]
  have hc : ∃ z : vp_A, cellE G (sT S a) (sL S a) (I a) (R a) = .inl (gC G (sT S a), z) ∧ z.1 = sL S a := by
    by_cases h : sT S a ≤ 23
    · exact ⟨_, cellE_int G ht h _ _ _, rfl⟩
    · exact ⟨_, cellE_ref G (by omega) _ _ _, rfl⟩
  obtain ⟨z, hz, hz1⟩ := hc
  rw [hz] at hw
  have hty : ∃ ty, atyL[sT S a - 21]? = some ty := by
    have : sT S a - 21 < atyL.length := by show _ < 7; omega
    exact ⟨_, List.getElem?_eq_getElem this⟩
  obtain ⟨ty, hty⟩ := hty
  refine va_alen hx hb hC.2.2.2.2.2.2.2.2.1 hF.2.1.1 (a - 1) (sT S a - 21) hw (gT_at hC.2.2.2.2.2.2.2.2.2.1 hty) (v := Int32.ofInt (sL S a : Int)) (by rw [hz1]; rfl) hd kk
theorem e_aald {t : Nat} (hd : decode (mC μ) pc = .ok (.aaload, 1)) (ht : sT S a = t) (ht1 : 24 ≤ t) (ht2 : t ≤ 27) (hi : 0 ≤ i ∧ i < (sL S a : Int)) (k : E G μ (pc + 1) ls (vR (R a i.toNat) :: st) S I R Q) : E G μ pc ls (vI i :: vR a :: st) S I R Q := by
  refine e_go (fun o _ h => vok_cons (v := vR _) trivial (vok_tl (vok_tl h))) (fun p l e Rm s m args below meth c Hm locs cells slots lsM Z o1 _ _ o4 hC hx hb hF kk => ?_) k
  subst ht
  obtain ⟨h1, h2, -⟩ := o1.2 a (by omega)
  have hw := wsOf_get G I R h1 h2
  rw [cellE_ref G ht1] at hw
  rw [List.map_cons] at kk
  rw [List.map_cons, List.map_cons, mv_ref G h1]
  have hty : ∃ ty, atyL[sT S a - 21]? = some ty ∧ ty.isReference = true := by
    have : sT S a = 24 ∨ sT S a = 25 ∨ sT S a = 26 ∨ sT S a = 27 := by omega
    rcases this with h | h | h | h <;> rw [h] <;> exact ⟨_, rfl, rfl⟩
  obtain ⟨ty, hty, href⟩ := hty
  have hcell : Hm[gB G + (a - 1)]? = some (vp_cell _ _) := hF.2.1.1 (a - 1) _ hw
  rw [vp_cell_q] at hcell
  have hin := in_of (vok_hd o4) hi
  refine W.aald hx hb hcell ((hC.2.2.2.2.2.2.2.2.1.2 _ _ (gT_at hC.2.2.2.2.2.2.2.2.2.1 hty)).1 _ _) href (fun q => by cases q) (by rw [arrV_size]; exact hin) (v := mv G (vR (R a i.toNat))) ?_ rfl rfl hd kk
  rw [arrV_read _ _ (by rw [cl_of (vok_hd o4)]; omega), cl_of (vok_hd o4), rvo_rf]
/-- an element of whole numbers is written -/
theorem e_astI {t : Nat} {ty : FieldType} {ins : Instr} (ht : sT S a = t) (ht1 : 21 ≤ t) (ht2 : t ≤ 23) (hi : 0 ≤ i ∧ i < (sL S a : Int)) (hty : atyL[t - 21]? = some ty) (hr : InR i → InR x → irng (ety t i.toNat) x)
    (h : ∀ (p : Program) (l : Launch) (e : Env) (Rm : Room) (s : State) (m : MethodId) (args : Array Value) (below : List Frame) (meth : Method) (c : Code) (Hm : Heap) (locs : List Loc) (cells slots : Nat) (lsM : Array Slot) (Z : State → Prop) (cell : Cell) (aM : Addr) (j : Int32) (rest : List Value),
      p.tables.exec = Jvm.exec → c.code = mC μ → Hm[aM]? = some cell → s.isArrayOf cell ty → cell.vm ≠ .unknown → ¬ (j < 0 ∨ cell.slots.size ≤ j.toNatClampNeg) →
      (∀ H' : Heap, H'[aM]? = some (cell.setSlot j.toNatClampNeg (.int (Int32.ofInt x))) → H'.size = Hm.size → (∀ q, q ≠ aM → H'[q]? = Hm[q]?) → W p l e Rm s m args below meth c H' (locs ++ [⟨aM, j.toNatClampNeg⟩]) cells slots Z (F0 m (pc + 1) lsM rest)) →
      W p l e Rm s m args below meth c Hm locs cells slots Z (F0 m pc lsM (.int (Int32.ofInt x) :: .int j :: .ref aM :: rest)))
    (k : E G μ (pc + 1) ls st S (up2 I a i.toNat x) R Q) : E G μ pc ls (vI x :: vI i :: vR a :: st) S I R Q := by
  refine e_step (Nat.le_refl _) (Nat.le_refl _) (fun o1 o2 o3 o4 => ⟨o1, okI_up o2 (by rw [ht]; exact hr (vok_hd (vok_tl o4)) (vok_hd o4)), o3, vok_tl (vok_tl (vok_tl o4))⟩) ?_ k
  intro p l e Rm s m args below meth c Hm locs cells slots lsM Z o1 o2 o3 o4 hC hc hs hF kk
  obtain ⟨h1, h2, -⟩ := o1.2 a (by omega)
  have hw := wsOf_get G I R h1 h2
  rw [ht, cellE_int G ht1 ht2] at hw
  rw [List.map_cons, List.map_cons, List.map_cons, mv_ref G h1]
  have hii : InR i := vok_hd (vok_tl o4)
  have hin := in_of hii hi
  have hset := wsOf_set G (S := S) (I := I) (I' := up2 I a i.toNat x) (R := R) (R' := R) h1 h2 (fun b hb => up2_n hb) (fun _ _ => rfl) (e := .inl (gC G t, sL S a, .inl (fun j => Int32.ofInt (up2 I a i.toNat x a j)))) (by rw [ht, cellE_int G ht1 ht2])
  have hcell : Hm[gB G + (a - 1)]? = some (vp_cell _ _) := hF.2.1.1 (a - 1) _ hw
  refine h p l e Rm s m args below meth c Hm locs cells slots lsM Z _ (gB G + (a - 1)) (Int32.ofInt i) _ hC.1 hC.2.1 hcell ((hC.2.2.2.2.2.2.2.2.1.2 _ _ (gT_at hC.2.2.2.2.2.2.2.2.2.1 hty)).1 _ (fun j => .int (Int32.ofInt (I a j)))) (fun q => by cases q) (by show ¬ (_ ∨ (arrV _ _ _).slots.size ≤ _); rw [arrV_size]; exact hin) fun H1 e1 z oq => ?_
  have hP := hF.2.1.1.set (wsOf_D G S I R) hw (e := .inl (gC G t, sL S a, .inl (fun j => Int32.ofInt (up2 I a i.toNat x a j)))) (H1 := H1) (by
    show H1[_]? = some (vp_cell _ _)
    rw [e1, vp_cell_i, vp_cell_i, arrV_store, cl_of hii]
    congr 2
    funext q
    by_cases hq : q = i.toNat
    · subst hq
      simp [updV, up2_ss]
    · simp [updV, hq, up2_sn hq]) oq
  rw [hset] at hP
  have hS2 := hF.2.2.put (k := (Int32.ofInt i).toNatClampNeg) z oq (show gB G ≤ gB G + (a - 1) by omega)
  have := kk H1 _ lsM ⟨hF.1, ⟨hP, z.trans hF.2.1.2⟩, hS2⟩
  simpa using this
theorem e_iast (hd : decode (mC μ) pc = .ok (.iastore, 1)) (ht : sT S a = 21) (hi : 0 ≤ i ∧ i < (sL S a : Int)) (k : E G μ (pc + 1) ls st S (up2 I a i.toNat x) R Q) : E G μ pc ls (vI x :: vI i :: vR a :: st) S I R Q :=
  e_astI (ins := .iastore) ht (by omega) (by omega) hi rfl (fun _ h => h) (fun p l e Rm s m args below meth c Hm locs cells slots lsM Z cell aM j rest hx hb h1 h2 h3 h4 kk => W.iast hx hb h1 h2 h3 h4 rfl rfl hd kk) k
theorem nar_b {x : Int} (h : -128 ≤ x ∧ x < 128) : narrow .byte (.int (Int32.ofInt x)) = .int (Int32.ofInt x) := by
  show Value.int _ = _
  congr 1
  apply Int32.toInt_inj.mp
  have : (Int32.ofInt x).toInt = x := o32 (by unfold InR; omega)
  simp only [Int32.toInt_toInt8, Int8.toInt_toInt32, this]
  exact Int.bmod_eq_of_le (by omega) (by omega)
theorem e_bast (hd : decode (mC μ) pc = .ok (.bastore, 1)) (ht : sT S a = 22) (hi : 0 ≤ i ∧ i < (sL S a : Int)) (hx : -128 ≤ x ∧ x < 128) (k : E G μ (pc + 1) ls st S (up2 I a i.toNat x) R Q) : E G μ pc ls (vI x :: vI i :: vR a :: st) S I R Q :=
  e_astI (ins := .bastore) ht (by omega) (by omega) hi rfl (fun _ _ => hx) (fun p l e Rm s m args below meth c Hm locs cells slots lsM Z cell aM j rest hx1 hb h1 h2 h3 h4 kk => W.bast hx1 hb h1 h2 h3 h4 rfl rfl hd (by rw [nar_b hx]; exact kk)) k
theorem e_aast {t r : Nat} (hd : decode (mC μ) pc = .ok (.aastore, 1)) (ht : sT S a = t) (htr : (t = 24 ∧ sT S r = 5) ∨ (t = 25 ∧ sT S r = 2) ∨ (t = 26 ∧ sT S r = 3)) (hi : 0 ≤ i ∧ i < (sL S a : Int)) (k : E G μ (pc + 1) ls st S I (up2 R a i.toNat r) Q) : E G μ pc ls (vR r :: vI i :: vR a :: st) S I R Q := by
  refine e_step (Nat.le_refl _) (Nat.le_refl _) (fun o1 o2 o3 o4 => ⟨o1, o2, o3, vok_tl (vok_tl (vok_tl o4))⟩) ?_ k
  intro p l e Rm s m args below meth c Hm locs cells slots lsM Z o1 o2 o3 o4 hC hc hs hF kk
  have hci : ∃ ci, ci < 11 ∧ sT S r = ci + 1 ∧ atyL[t - 21]? = some (.object (clC ci)) := by
    rcases htr with ⟨rfl, h⟩ | ⟨rfl, h⟩ | ⟨rfl, h⟩
    · exact ⟨4, by omega, h, rfl⟩
    · exact ⟨1, by omega, h, rfl⟩
    · exact ⟨2, by omega, h, rfl⟩
  obtain ⟨ci, hci, htag, hty⟩ := hci
  obtain ⟨h1, h2, -⟩ := o1.2 a (by omega)
  obtain ⟨h3, h4⟩ := tag_in o1 htag
  have hw := wsOf_get G I R h1 h2
  rw [ht, cellE_ref G (by omega)] at hw
  have hv := wsOf_get G I R h3 h4
  rw [htag, cellE_cls G hci] at hv
  rw [List.map_cons, List.map_cons, List.map_cons, mv_ref G h1, mv_ref G h3]
  have hii : InR i := vok_hd (vok_tl o4)
  have hin := in_of hii hi
  have hset := wsOf_set G (S := S) (I := I) (I' := I) (R := R) (R' := up2 R a i.toNat r) h1 h2 (fun _ _ => rfl) (fun b hb => up2_n hb) (e := .inl (gC G t, sL S a, .inr (.inr (.inr (.inr (fun j => rvo G (up2 R a i.toNat r a j))))))) (by rw [ht, cellE_ref G (by omega)])
  have hcell : Hm[gB G + (a - 1)]? = some (vp_cell _ _) := hF.2.1.1 (a - 1) _ hw
  obtain ⟨hcl, -⟩ := clOK_all ci hci
  obtain ⟨r', hr', cellV, g1, g2, g3, -⟩ := hF.2.1.1 (r - 1) _ hv
  have hK := hC.2.2.2.2.2.2.2.2.1
  have hcls := (hK.1 ci _ hcl).2
  obtain ⟨kA, comp, k1, k2, k3, -⟩ := (hK.2 _ _ (gT_at hC.2.2.2.2.2.2.2.2.2.1 hty)).2
  have hcomp : comp = (gD G).1 ci := Option.some.inj (k3.symm.trans hcls.1)
  subst hcomp
  obtain ⟨kC, hkC, -⟩ := hcls.2
  refine W.aast hC.1 hC.2.1 hcell (fun q h => by cases h) (fun h => by cases h) k1 k2 rfl hkC ⟨fun q => hin (Or.inl q), by show _ < (arrV _ _ _).slots.size; rw [arrV_size]; exact Nat.not_le.mp fun q => hin (Or.inr q)⟩ g1 (fun q h => by rw [g3] at h; cases h) (by rw [g2]; exact hkC) (by rw [g2]; exact va_assign hcls) rfl rfl hd fun H1 e1 z oq => ?_
  have hP := hF.2.1.1.set (wsOf_D G S I R) hw (e := .inl (gC G t, sL S a, .inr (.inr (.inr (.inr (fun j => rvo G (up2 R a i.toNat r a j))))))) (H1 := H1) (by
    show H1[_]? = some (vp_cell _ _)
    rw [e1, vp_cell_q, vp_cell_q, arrV_store, cl_of hii]
    refine congrArg some (congrArg (arrV _ _) (funext fun q => ?_))
    by_cases hq : q = i.toNat
    · subst hq
      simp only [updV, up2_ss, if_true, rvo_rf, mv_ref G h3]
    · simp only [updV, hq, up2_sn hq, if_false]) oq
  rw [hset] at hP
  have hS2 := hF.2.2.put (k := (Int32.ofInt i).toNatClampNeg) z oq (show gB G ≤ gB G + (a - 1) by omega)
  have := kk H1 _ lsM ⟨hF.1, ⟨hP, z.trans hF.2.1.2⟩, hS2⟩
  simpa using this
end AR
end
section
/-! ===== THE WALK: new cells, copies ===== -/
def shNew (S : Sh) (t len u : Nat) : Sh := (sN S + 1, sU S + u, up1 (sT S) (sN S) t, up1 (sL S) (sN S) len)
theorem sN_new (S : Sh) (t len u : Nat) : sN (shNew S t len u) = sN S + 1 := rfl
theorem sU_new (S : Sh) (t len u : Nat) : sU (shNew S t len u) = sU S + u := rfl
theorem sT_new (S : Sh) (t len u : Nat) : sT (shNew S t len u) = up1 (sT S) (sN S) t := rfl
theorem sL_new (S : Sh) (t len u : Nat) : sL (shNew S t len u) = up1 (sL S) (sN S) len := rfl
def mNew {α : Type} (f : Nat → Nat → α) (n : Nat) (z : α) : Nat → Nat → α := up1 f n (fun _ => z)
theorem okS_new {S : Sh} {t len u : Nat} (h : okS S) (ht : t ≤ 11 ∨ (21 ≤ t ∧ t ≤ 27)) (hl : len < 2147483648) : okS (shNew S t len u) := by
  refine ⟨by rw [sN_new]; omega, fun a ha => ?_⟩
  rw [sT_new] at ha
  rw [sN_new, sT_new, sL_new]
  by_cases e : a = sN S
  · subst e
    rw [up1_s, up1_s]
    exact ⟨h.1, by omega, ht, hl⟩
  · rw [up1_n e] at ha ⊢
    rw [up1_n e]
    have := h.2 a ha
    exact ⟨this.1, by omega, this.2.2⟩
theorem irng0 (ty : FieldType) : irng ty 0 := by
  cases ty <;> first | exact Or.inl rfl | (constructor <;> decide)
theorem okI_new {S : Sh} {I : MI} {t len u : Nat} (h : okI S I) : okI (shNew S t len u) (mNew I (sN S) 0) := by
  intro a j
  rw [sT_new]
  unfold mNew
  by_cases e : a = sN S
  · subst e
    rw [up1_s, up1_s]
    exact irng0 _
  · rw [up1_n e, up1_n e]
    exact h a j
theorem ws_new (G : Gl) {S : Sh} (I : MI) (R : MR) (t len u : Nat) (h0 : 1 ≤ sN S) : wsOf G (shNew S t len u) (mNew I (sN S) 0) (mNew R (sN S) 0) = wsOf G S I R ++ [(gB G + (sN S - 1), cellE G t len (fun _ => 0) (fun _ => 0))] := by
  have := wsOf_push G (S := S) (S' := shNew S t len u) (I := I) (I' := mNew I (sN S) 0) (R := R) (R' := mNew R (sN S) 0) h0 rfl
    (fun k hk => by rw [sT_new, up1_n (by omega)]) (fun k hk => by rw [sL_new, up1_n (by omega)]) (fun k hk => by unfold mNew; rw [up1_n (by omega)]) (fun k hk => by unfold mNew; rw [up1_n (by omega)])
  rw [this]
  unfold mNew
  rw [sT_new, sL_new, up1_s, up1_s, up1_s, up1_s]
theorem tk_lt : ∀ ci, ci < 11 → ∀ j, j < clN ci → tk (clTy ci j) < 3 := by decide +kernel
section NW
variable {G : Gl} {μ : MB} {pc pc2 : Nat} {ls ls2 : Lc} {st st2 : List PV} {S S2 : Sh} {I I2 : MI} {R R2 : MR} {Q : PQ} {idx ci f a : Nat} {i x : Int}
/-- a cell of its kind comes behind all others -/
theorem e_newC {t len u pc2 : Nat} {st0 : List PV} (hst : okV st0 → okV st) (ht : t ≤ 11 ∨ (21 ≤ t ∧ t ≤ 27)) (hl : len < 2147483648)
    (h : ∀ (p : Program) (l : Launch) (e : Env) (Rm : Room) (s : State) (m : MethodId) (args : Array Value) (below : List Frame) (meth : Method) (c : Code) (Hm : Heap) (locs : List Loc) (cells slots : Nat) (lsM : Array Slot) (Z : State → Prop),
      okV st0 → Cx G μ p Rm s m args meth c → cells + 1 ≤ Rm.cells → slots + u ≤ Rm.slots →
      (∀ H' : Heap, H'.size = Hm.size + 1 → (∀ q, q < Hm.size → H'[q]? = Hm[q]?) → va_at (gD G) vwCl (Hm.size, cellE G t len (fun _ => 0) (fun _ => 0)) H' → W p l e Rm s m args below meth c H' locs (cells + 1) (slots + u) Z (F0 m pc2 lsM (.ref Hm.size :: st.map (mv G)))) →
      W p l e Rm s m args below meth c Hm locs cells slots Z (F0 m pc lsM (st0.map (mv G))))
    (k : E G μ pc2 ls (vR (sN S) :: st) (shNew S t len u) (mNew I (sN S) 0) (mNew R (sN S) 0) Q) : E G μ pc ls st0 S I R Q := by
  refine e_step (by rw [sN_new]; omega) (by rw [sU_new]; omega) (fun o1 o2 o3 o4 => ⟨okS_new o1 ht hl, okI_new o2, o3, vok_cons (v := vR _) trivial (hst o4)⟩) ?_ k
  intro p l e Rm s m args below meth c Hm locs cells slots lsM Z o1 o2 o3 o4 hC hc hs hF kk
  rw [sN_new] at hc
  rw [sU_new] at hs
  have hsz := hF.2.1.2
  refine h p l e Rm s m args below meth c Hm locs cells slots lsM Z o4 hC (by omega) (by omega) fun H1 z1 oq hat => ?_
  have hP : va_P (gD G) vwCl (wsOf G (shNew S t len u) (mNew I (sN S) 0) (mNew R (sN S) 0)) H1 := by
    rw [ws_new G I R t len u o1.1]
    refine (hF.2.1.1.kept (fun k q hk => oq q.1 (hF.2.1.1 k q hk).lt)).app (fun k q hq => ?_)
    have hz : k < 1 := (List.getElem?_eq_some_iff.mp hq).1
    rw [show k = 0 by omega] at hq
    cases hq
    rw [← hsz]
    exact hat
  have hS2 : va_S (fun q => gB G ≤ q) s.heap H1 locs := ⟨by have := hF.2.2.1; omega, fun q h1 h2 => (oq q (Nat.lt_of_lt_of_le h1 hF.2.2.1)).trans (hF.2.2.2.1 q h1 h2), hF.2.2.2.2⟩
  have := kk H1 locs lsM ⟨hF.1, ⟨hP, by rw [sN_new, z1, hsz]; have := o1.1; omega⟩, hS2⟩
  rw [List.map_cons, mv_ref G o1.1, ← hsz, sN_new, sU_new] at this
  rw [show sN S + 1 - sN S = 1 by omega, show sU S + u - sU S = u by omega] at this
  exact this
theorem e_new (hd : decode (mC μ) pc = .ok (.new idx, 3)) (hci : ci < 11) (hw : Cond.classLink (mO μ) idx (clC ci) ∈ lw_t2 ∧ Cond.instantiable (clC ci) (clN ci) ∈ lw_t2 ∧ Cond.initialized (clC ci) ∈ lw_t2) (k : E G μ (pc + 3) ls (vR (sN S) :: st) (shNew S (ci + 1) 0 (clN ci)) (mNew I (sN S) 0) (mNew R (sN S) 0) Q) : E G μ pc ls st S I R Q := by
  refine e_newC (fun h => h) (by omega) (by omega) (fun p l e Rm s m args below meth c Hm locs cells slots lsM Z o4 hC hc hs kk => ?_) k
  obtain ⟨hcl, hin, hty, hnm⟩ := clOK_all ci hci
  have hts := hC.2.2.2.2.1
  have hKn := hC.2.2.2.2.2.2.2.2.1.1 ci _ hcl
  refine W.newcK hC.1 hC.2.1 hC.2.2.2.1 (hts _ hw.1) (hts _ hw.2.1) (hts _ hw.2.2) rfl hd hc hs hKn.2.1 rfl fun H1 kC hkC e1 z1 o1 => ?_
  refine kk H1 z1 o1 ?_
  rw [cellE_cls G hci]
  refine ⟨_, hcl, (u_born (clTy ci) hts hin hKn hkC e1 hty).to (fun j hj => ?_)⟩
  unfold vp_V
  rw [List.getD_eq_getElem?_getD, fvals_at G hj]
  have htk := tk_lt ci hci j hj
  generalize clTy ci j = ty at htk
  show defaultValue ty = fval G ty 0 0
  cases ty <;> first | rfl | exact absurd htk (by decide)
theorem tys_eq {s : State} {G : Gl} (hK : va_K (gD G) vwCl (gT G) s) (hT : (gT G).map Prod.snd = atyL) {t : Nat} {ty : FieldType} (hty : atyL[t - 21]? = some ty) {cA : ClassId} (hf : s.vm.findClass ("[" ++ ty.toString) = some cA) : cA = gC G t := by
  have h := (hK.2 _ _ (gT_at hT hty)).2
  have h2 : s.vm.findClass ("[" ++ ty.toString) = some (gC G t) := by
    cases ty with
    | object C => obtain ⟨kA, comp, -, -, -, h4⟩ := h; exact h4
    | _ => exact h
  exact Option.some.inj (hf.symm.trans h2)
theorem e_newa {t : Nat} {atype : ArrayType} {n : Nat} (hd : decode (mC μ) pc = .ok (.newarray atype, 2)) (hat : (t = 21 ∧ atype = .int) ∨ (t = 22 ∧ atype = .byte)) (hw : Cond.arrayClass (newarray.typeOf atype) ∈ lw_t2) (hx : x = (n : Int)) (hn : n ≤ 100000000)
    (k : E G μ (pc + 2) ls (vR (sN S) :: st) (shNew S t n n) (mNew I (sN S) 0) (mNew R (sN S) 0) Q) : E G μ pc ls (vI x :: st) S I R Q := by
  refine e_newC (fun h => vok_tl h) (by omega) (by omega) (fun p l e Rm s m args below meth c Hm locs cells slots lsM Z o4 hC hc hs kk => ?_) k
  have hts := hC.2.2.2.2.1
  have hxx : InR x := vok_hd o4
  have hcl : (Int32.ofInt x).toNatClampNeg = n := by rw [cl_of hxx, hx]; rfl
  have hn0 : ¬ Int32.ofInt x < 0 := by
    intro h
    rw [Int32.lt_iff_toInt_lt, o32 hxx] at h
    have : x < 0 := h
    omega
  rcases hat with ⟨rfl, rfl⟩ | ⟨rfl, rfl⟩
  · refine va_newaK hC.1 hC.2.1 (hts _ hw) rfl hd rfl (n := Int32.ofInt x) (N := n) hn0 hcl (by show n * 4 ≤ _; omega) hc hs rfl fun H1 cA e1 z1 o1 hA hNm => ?_
    refine kk H1 z1 o1 ?_
    rw [cellE_int G (by omega) (by omega), ← tys_eq (t := 21) hC.2.2.2.2.2.2.2.2.1 hC.2.2.2.2.2.2.2.2.2.1 rfl hNm]
    show H1[Hm.size]? = some (vp_cell _ _)
    rw [e1, vp_cell_i]
    rfl
  · refine va_newaK hC.1 hC.2.1 (hts _ hw) rfl hd rfl (n := Int32.ofInt x) (N := n) hn0 hcl (by show n * 1 ≤ _; omega) hc hs rfl fun H1 cA e1 z1 o1 hA hNm => ?_
    refine kk H1 z1 o1 ?_
    rw [cellE_int G (by omega) (by omega), ← tys_eq (t := 22) hC.2.2.2.2.2.2.2.2.1 hC.2.2.2.2.2.2.2.2.2.1 rfl hNm]
    show H1[Hm.size]? = some (vp_cell _ _)
    rw [e1, vp_cell_i]
    rfl
theorem e_anew {t : Nat} {C : String} {n : Nat} (hd : decode (mC μ) pc = .ok (.anewarray idx, 3)) (ht1 : 24 ≤ t) (ht2 : t ≤ 26) (hty : atyL[t - 21]? = some (.object C)) (hw : Cond.classLink (mO μ) idx C ∈ lw_t2 ∧ (C = RX5 ∨ C = RX1 ∨ C = RX2)) (hx : x = (n : Int)) (hn : n ≤ 100000000)
    (k : E G μ (pc + 3) ls (vR (sN S) :: st) (shNew S t n n) (mNew I (sN S) 0) (mNew R (sN S) 0) Q) : E G μ pc ls (vI x :: st) S I R Q := by
  refine e_newC (fun h => vok_tl h) (by omega) (by omega) (fun p l e Rm s m args below meth c Hm locs cells slots lsM Z o4 hC hc hs kk => ?_) k
  have hts := hC.2.2.2.2.1
  have hxx : InR x := vok_hd o4
  have hcl : (Int32.ofInt x).toNatClampNeg = n := by rw [cl_of hxx, hx]; rfl
  have hov : va_AO C s := by
    obtain ⟨⟨-, w1, w2, w3, -⟩, -⟩ := hC.2.2.2.2.2.2.2.2.2.2.2.2.2.2.2.2
    rcases hw.2 with rfl | rfl | rfl
    · exact w1
    · exact w2
    · exact w3
  refine W.anew hC.1 hC.2.1 hC.2.2.2.1 (hts _ hw.1) (va_AO.use hov) rfl hd (n := Int32.ofInt x) rfl ?_ (by rw [hcl]; omega) hc (by rw [hcl]; exact hs) fun cA kA comp h1 h2 h3 h4 => ?_
  · intro h
    rw [Int32.lt_iff_toInt_lt, o32 hxx] at h
    have : x < 0 := h
    omega
  · rw [hcl]
    refine kk _ (by simp) (fun q hq => by rw [Array.getElem?_push, if_neg (Nat.ne_of_lt hq)]) ?_
    rw [cellE_ref G ht1, ← tys_eq hC.2.2.2.2.2.2.2.2.1 hC.2.2.2.2.2.2.2.2.2.1 hty h1]
    show (Array.push _ _)[Hm.size]? = some (vp_cell _ _)
    rw [Array.getElem?_push_size, arrV_new, vp_cell_q]
    rfl
end NW
end
section
/-! ===== THE WALK: rows of rows, copies ===== -/
theorem mu_outer (c : ClassId) (N h0 : Nat) : ∀ i : Nat, Jvm.Free.Multi.outerC c N h0 i = arrV c N (fun j => va_rf (if j < i then some (h0 + 1 + j) else none))
  | 0 => by
    show ({ cls := c, slots := Array.replicate N .null, vm := .none } : Cell) = _
    rw [arrV_new]
    refine congrArg (arrV c N) (funext fun j => ?_)
    simp [va_rf]
  | i + 1 => by
    show (Jvm.Free.Multi.outerC c N h0 i).setSlot i (.ref (h0 + 1 + i)) = _
    rw [mu_outer c N h0 i, arrV_store]
    refine congrArg (arrV c N) (funext fun j => ?_)
    by_cases e : j = i
    · subst e
      simp [updV, va_rf]
    · by_cases h : j < i
      · simp [updV, e, h, Nat.lt_succ_of_lt h]
      · simp [updV, e, h, show ¬ j < i + 1 by omega]
def shMul (S : Sh) (n k : Nat) : Sh := (sN S + 1 + n, sU S + (n + n * k), fun a => if a = sN S then 27 else if sN S < a ∧ a ≤ sN S + n then 21 else sT S a, fun a => if a = sN S then n else if sN S < a ∧ a ≤ sN S + n then k else sL S a)
def iMul (I : MI) (N n : Nat) : MI := fun a => if N ≤ a ∧ a ≤ N + n then (fun _ => 0) else I a
def rMul (R : MR) (N n : Nat) : MR := fun a => if a = N then (fun j => if j < n then N + 1 + j else 0) else if N < a ∧ a ≤ N + n then (fun _ => 0) else R a
theorem sN_mul (S : Sh) (n k : Nat) : sN (shMul S n k) = sN S + 1 + n := rfl
theorem sU_mul (S : Sh) (n k : Nat) : sU (shMul S n k) = sU S + (n + n * k) := rfl
theorem sT_mul (S : Sh) (n k a : Nat) : sT (shMul S n k) a = if a = sN S then 27 else if sN S < a ∧ a ≤ sN S + n then 21 else sT S a := rfl
theorem sL_mul (S : Sh) (n k a : Nat) : sL (shMul S n k) a = if a = sN S then n else if sN S < a ∧ a ≤ sN S + n then k else sL S a := rfl
section ML
variable {G : Gl} {μ : MB} {pc pc2 : Nat} {ls ls2 : Lc} {st st2 : List PV} {S S2 : Sh} {I I2 : MI} {R R2 : MR} {Q : PQ} {idx ci f a : Nat} {i x y : Int}
theorem e_mna {n k : Nat} (hd : decode (mC μ) pc = .ok (.multianewarray idx 2, 4)) (hw : Cond.classLink (mO μ) idx "[[I" ∈ lw_t2 ∧ Cond.arrayClass .int ∈ lw_t2) (hx : x = (n : Int)) (hy : y = (k : Int)) (hn : n ≤ 10000) (hk : k ≤ 10000)
    (kk : E G μ (pc + 4) ls (vR (sN S) :: st) (shMul S n k) (iMul I (sN S) n) (rMul R (sN S) n) Q) : E G μ pc ls (vI y :: vI x :: st) S I R Q := by
  refine e_step (by rw [sN_mul]; omega) (by rw [sU_mul]; omega) (fun o1 o2 o3 o4 => ⟨?_, ?_, o3, vok_cons (v := vR _) trivial (vok_tl (vok_tl o4))⟩) ?_ kk
  · refine ⟨by rw [sN_mul]; omega, fun a ha => ?_⟩
    have h0 := o1.1
    rw [sT_mul] at ha
    rw [sN_mul, sT_mul, sL_mul]
    by_cases e : a = sN S
    · subst e; simp only [if_true]; omega
    · rw [if_neg e] at ha
      rw [if_neg e, if_neg e]
      by_cases h : sN S < a ∧ a ≤ sN S + n
      · rw [if_pos h, if_pos h]; omega
      · rw [if_neg h] at ha
        rw [if_neg h, if_neg h]
        have := o1.2 a ha
        omega
  · intro a j
    rw [sT_mul]
    unfold iMul
    by_cases e : sN S ≤ a ∧ a ≤ sN S + n
    · rw [if_pos e]; exact irng0 _
    · rw [if_neg e, if_neg (by omega), if_neg (by omega)]; exact o2 a j
  intro p l e Rm s m args below meth c Hm locs cells slots lsM Z o1 o2 o3 o4 hC hc hs hF kk
  have hts := hC.2.2.2.2.1
  have hK := hC.2.2.2.2.2.2.2.2.1
  have hT := hC.2.2.2.2.2.2.2.2.2.1
  have hyy : InR y := vok_hd o4
  have hxx : InR x := vok_hd (vok_tl o4)
  have hclx : (Int32.ofInt x).toNatClampNeg = n := by rw [cl_of hxx, hx]; rfl
  have hcly : (Int32.ofInt y).toNatClampNeg = k := by rw [cl_of hyy, hy]; rfl
  have hn0 : ¬ Int32.ofInt x < 0 := by
    intro h
    rw [Int32.lt_iff_toInt_lt, o32 hxx] at h
    have : x < 0 := h
    omega
  have hk0 : ¬ Int32.ofInt y < 0 := by
    intro h
    rw [Int32.lt_iff_toInt_lt, o32 hyy] at h
    have : y < 0 := h
    omega
  rw [sN_mul] at hc
  rw [sU_mul] at hs
  have hsz := hF.2.1.2
  have hN1 := o1.1
  intro T hTm Xs
  obtain ⟨vm₁, cA, comp, -, fA, fC, hO, -, X', step⟩ := Xs.multianewarray2F (ty := .int) hC.1 hC.2.2.2.1 (hts _ hw.1) hC.2.2.2.2.2.2.2.2.2.2.2.2.2.2.2.2.1.2.2.2.2.1 (hts _ hw.2) (g := F0 m pc lsM (.int (Int32.ofInt y) :: .int (Int32.ofInt x) :: st.map (mv G))) rfl (by rw [hC.2.1]; exact hd) rfl hn0 hk0 (by rw [hclx]; omega) (by rw [hcly]; show k * 4 ≤ _; omega) (by rw [hcly]; omega) rfl rfl (by rw [hclx]; omega) (by rw [hclx, hcly]; omega)
  rw [hclx, hcly] at X' step
  have e27 : cA = gC G 27 := tys_eq (t := 27) hK hT rfl fA
  have e21 : comp = gC G 21 := tys_eq (t := 21) hK hT rfl fC
  subst e27; subst e21
  generalize hFl : Jvm.Free.Multi.fill (T.setVm vm₁) (gC G 27) (gC G 21) n k (defaultValue .int) n = F at X' step
  have hTh : (T.setVm vm₁).heap = Hm := hTm
  obtain ⟨f1, f2, -, -⟩ := Jvm.Free.Multi.fill_facts (T.setVm vm₁) (gC G 27) (gC G 21) n k (defaultValue .int) n
  rw [hFl, hTh] at f1 f2
  have hold : ∀ x : Nat, x < Hm.size → F.heap[x]? = Hm[x]? := fun x hx => by
    have := Jvm.Free.Multi.fill_old (T.setVm vm₁) (gC G 27) (gC G 21) n k (defaultValue .int) (a := x) (by rw [hTh]; exact hx) n
    rw [hFl, hTh] at this
    exact this
  have hrow : ∀ j : Nat, j < n → F.heap[Hm.size + 1 + j]? = some (vp_cell (gC G 21) (k, .inl (fun _ => Int32.ofInt 0))) := fun j hj => by
    have := Jvm.Free.Multi.fill_inner (T.setVm vm₁) (gC G 27) (gC G 21) n k (defaultValue .int) n j hj
    rw [hFl, hTh] at this
    rw [this, vp_cell_i]
    show some ({ cls := gC G 21, slots := Array.replicate k _, vm := .none } : Cell) = _
    rw [arrV_new]
    rfl
  rw [mu_outer] at f2
  have hP : va_P (gD G) vwCl (wsOf G (shMul S n k) (iMul I (sN S) n) (rMul R (sN S) n)) F.heap := by
    intro q z hz
    have hl := (List.getElem?_eq_some_iff.mp hz).1
    rw [wsOf_len, sN_mul] at hl
    have hg := wsOf_get G (S := shMul S n k) (iMul I (sN S) n) (rMul R (sN S) n) (a := q + 1) (by omega) (by rw [sN_mul]; omega)
    rw [Nat.add_sub_cancel, hz] at hg
    rw [Option.some.inj hg]
    by_cases h1 : q + 1 < sN S
    · have hw2 := wsOf_get G (S := S) I R (a := q + 1) (by omega) h1
      rw [Nat.add_sub_cancel] at hw2
      have h0 := hF.2.1.1 q _ hw2
      have hlt := h0.lt
      rw [sT_mul, sL_mul, if_neg (by omega), if_neg (by omega), if_neg (by omega), if_neg (by omega), show iMul I (sN S) n (q + 1) = I (q + 1) from if_neg (by omega), show rMul R (sN S) n (q + 1) = R (q + 1) by unfold rMul; rw [if_neg (by omega), if_neg (by omega)]]
      exact h0.kept (hold _ hlt)
    · by_cases h2 : q + 1 = sN S
      · rw [sT_mul, sL_mul, if_pos h2, if_pos h2, cellE_ref G (by omega)]
        show F.heap[gB G + q]? = some (vp_cell _ _)
        rw [vp_cell_q, show gB G + q = Hm.size by omega, f2]
        refine congrArg some (congrArg (arrV _ _) (funext fun j => congrArg va_rf ?_))
        unfold rMul
        rw [if_pos h2]
        by_cases hj : j < n
        · rw [if_pos hj, if_pos hj, show sN S + 1 + j = (sN S + j) + 1 by omega]
          show some _ = some _
          congr 1
          omega
        · rw [if_neg hj, if_neg hj]; rfl
      · rw [sT_mul, sL_mul, if_neg h2, if_neg h2, if_pos (by omega), if_pos (by omega), cellE_int G (by omega) (by omega), show iMul I (sN S) n (q + 1) = (fun _ => 0) from if_pos (by omega)]
        have := hrow (q - sN S) (by omega)
        rw [show Hm.size + 1 + (q - sN S) = gB G + q by omega] at this
        exact this
  have hS2 : va_S (fun q => gB G ≤ q) s.heap F.heap locs := ⟨by rw [f1]; have := hF.2.2.1; omega, fun q h1 h2 => (hold q (Nat.lt_of_lt_of_le h1 hF.2.2.1)).trans (hF.2.2.2.1 q h1 h2), hF.2.2.2.2⟩
  have := kk F.heap locs lsM ⟨hF.1, ⟨hP, by rw [f1, hsz, sN_mul]; omega⟩, hS2⟩
  rw [List.map_cons, mv_ref G hN1, sN_mul, sU_mul, show sN S + 1 + n - sN S = 1 + n by omega, show sU S + (n + n * k) - sU S = n + n * k by omega] at this
  obtain ⟨t, a1, b1⟩ := this F rfl (by rw [show cells + (1 + n) = cells + 1 + n by omega, show slots + (n + n * k) = slots + n + n * k by omega]; exact X')
  refine ⟨t, step t ?_, b1⟩
  have e9 : T.heap.size = gB G + (sN S - 1) := by rw [hTm, hsz]
  rw [e9]
  exact a1
theorem fits_b {x : Int} (h : -128 ≤ x ∧ x < 128) : fits .byte (.int (Int32.ofInt x)) = true := by
  have e : (Int32.ofInt x).toInt = x := o32 (by unfold InR; omega)
  show ((-128 : Int32) ≤ Int32.ofInt x && Int32.ofInt x ≤ (127 : Int32)) = true
  rw [Bool.and_eq_true, decide_eq_true_iff, decide_eq_true_iff, Int32.le_iff_toInt_le, Int32.le_iff_toInt_le, e]
  exact ⟨h.1, by show x ≤ 127; omega⟩
theorem e_copy {a0 : Nat} {sp dp n : Int} (hd : decode (mC μ) pc = .ok (.invokestatic idx, 3)) (hw : Cond.methodLink (mO μ) idx arraycopyName ∈ lw_t2 ∧ Cond.native arraycopyName ∈ lw_t2 ∧ Cond.static arraycopyName ∈ lw_t2 ∧ Cond.initialized "java/lang/System" ∈ lw_t2)
    (hk : 1 ≤ mK μ ∧ 40 ≤ mW μ) (hst : (st.map pcat).sum ≤ 8) (ht0 : sT S a0 = 21) (ht : sT S a = 21) (h1 : 0 ≤ sp) (h2 : 0 ≤ dp) (h3 : 0 ≤ n) (h4 : sp + n ≤ (sL S a0 : Int)) (h5 : dp + n ≤ (sL S a : Int))
    (k : E G μ (pc + 3) ls st S (up1 I a (va_cpy (I a0) (I a) sp.toNat dp.toNat n.toNat)) R Q) : E G μ pc ls (vI n :: vI dp :: vR a :: vI sp :: vR a0 :: st) S I R Q := by
  refine e_step (Nat.le_refl _) (Nat.le_refl _) (fun o1 o2 o3 o4 => ⟨o1, ?_, o3, vok_tl (vok_tl (vok_tl (vok_tl (vok_tl o4))))⟩) ?_ k
  · intro b j
    by_cases hb : b = a
    · subst hb
      rw [up1_s]
      unfold va_cpy
      have ha0 := o2 a0 (sp.toNat + (j - dp.toNat))
      rw [ht0] at ha0
      rw [ht]
      split
      · exact ha0
      · have := o2 b j
        rw [ht] at this
        exact this
    · rw [up1_n hb]; exact o2 b j
  intro p l e Rm s m args below meth c Hm locs cells slots lsM Z o1 o2 o3 o4 hC hc hs hF kk
  have hK := hC.2.2.2.2.2.2.2.2.1
  have hT := hC.2.2.2.2.2.2.2.2.2.1
  have hts := hC.2.2.2.2.1
  have in_n : InR n := vok_hd o4
  have in_d : InR dp := vok_hd (vok_tl o4)
  have in_s : InR sp := vok_hd (vok_tl (vok_tl (vok_tl o4)))
  obtain ⟨q1, q2, -⟩ := o1.2 a (by omega)
  obtain ⟨q3, q4, -⟩ := o1.2 a0 (by omega)
  have hw1 := wsOf_get G I R q1 q2
  rw [ht, cellE_int G (by omega) (by omega)] at hw1
  have hw0 := wsOf_get G I R q3 q4
  rw [ht0, cellE_int G (by omega) (by omega)] at hw0
  simp only [List.map_cons]
  rw [mv_ref G q1, mv_ref G q3]
  have neg : ∀ {z : Int}, InR z → 0 ≤ z → ¬ Int32.ofInt z < 0 := fun {z} hz h0 h => by
    rw [Int32.lt_iff_toInt_lt, o32 hz] at h
    have : z < 0 := h
    omega
  have hcs := cl_of in_s
  have hcd := cl_of in_d
  have hcn := cl_of in_n
  have hset := wsOf_set G (S := S) (I := I) (I' := up1 I a (va_cpy (I a0) (I a) sp.toNat dp.toNat n.toNat)) (R := R) (R' := R) q1 q2 (fun b hb => up1_n hb) (fun _ _ => rfl) (e := .inl (gC G 21, sL S a, .inl (fun j => Int32.ofInt (va_cpy (I a0) (I a) sp.toNat dp.toNat n.toNat j)))) (by rw [ht, cellE_int G (by omega) (by omega), up1_s])
  have hc0 : Hm[gB G + (a0 - 1)]? = some (vp_cell (gC G 21) (sL S a0, .inl (fun j => Int32.ofInt (I a0 j)))) := hF.2.1.1 _ _ hw0
  have hc1 : Hm[gB G + (a - 1)]? = some (vp_cell (gC G 21) (sL S a, .inl (fun j => Int32.ofInt (I a j)))) := hF.2.1.1 _ _ hw1
  have htyp := gT_at (t := 21) hT rfl
  obtain ⟨-, k0, hk0, cm0, hkk0⟩ := (hK.2 _ _ htyp).1 (sL S a0) (fun j => .int (Int32.ofInt (I a0 j)))
  obtain ⟨-, k1, hk1, cm1, hkk1⟩ := (hK.2 _ _ htyp).1 (sL S a) (fun j => .int (Int32.ofInt (I a j)))
  intro T hTm X
  obtain ⟨vm', X', step⟩ := X.arraycopy hC.1 hC.2.2.2.1 (hts _ hw.1) (hts _ hw.2.1) (hts _ hw.2.2.1) (hts _ hw.2.2.2) (src := gB G + (a0 - 1)) (dst := gB G + (a - 1)) (cs := vp_cell (gC G 21) (sL S a0, .inl (fun j => Int32.ofInt (I a0 j)))) (cd := vp_cell (gC G 21) (sL S a, .inl (fun j => Int32.ofInt (I a j)))) (srcPos := Int32.ofInt sp) (destPos := Int32.ofInt dp) (n := Int32.ofInt n) (by rw [hTm]; exact hc0) (by rw [hTm]; exact hc1)
    (fun _ h => by cases h) (fun _ h => by cases h) (fun h => by cases h) (fun h => by cases h) hk0 hk1 hkk0 hkk1 (by simp [refKind]) (neg in_s h1) (neg in_d h2) (neg in_n h3)
    (by rw [o32 in_s, o32 in_n]; show ¬ _ > ((arrV (gC G 21) (sL S a0) (fun j => .int (Int32.ofInt (I a0 j)))).slots.size : Int); rw [arrV_size]; omega)
    (by rw [o32 in_d, o32 in_n]; show ¬ _ > ((arrV (gC G 21) (sL S a) (fun j => .int (Int32.ofInt (I a j)))).slots.size : Int); rw [arrV_size]; omega)
    (fun vm₁ _ i hi => by
      rw [hcn] at hi
      have e : (vp_cell (gC G 21) (sL S a0, .inl (fun j => Int32.ofInt (I a0 j)))).slots.getD ((Int32.ofInt sp).toNatClampNeg + i) .null = .int (Int32.ofInt (I a0 (sp.toNat + i))) := by
        show (arrV (gC G 21) (sL S a0) (fun j => .int (Int32.ofInt (I a0 j)))).slots.getD _ _ = _
        rw [Array.getD_eq_getD_getElem?, hcs, arrV_read _ _ (by omega)]
        rfl
      refine ⟨?_, ?_⟩
      · rw [e]; rfl
      · rw [e]; exact trivial)
    (g := F0 m pc lsM (.int (Int32.ofInt n) :: .int (Int32.ofInt dp) :: .ref (gB G + (a - 1)) :: .int (Int32.ofInt sp) :: .ref (gB G + (a0 - 1)) :: st.map (mv G))) rfl (by rw [hC.2.2.1]; exact hF.1.1) (rest := st.map (mv G)) rfl (by rw [hC.2.1]; exact hd) (by have := hC.2.2.2.2.2.2.2.2.2.2.1; omega) (by
      have hr1 := hC.2.2.2.2.2.2.2.2.2.2.2.1
      have hr0 : ((st.map (mv G)).map fun v => v.category).sum = (st.map pcat).sum := by rw [List.map_map]; congr 1; exact List.map_congr_left (fun v _ => mv_cat G v)
      have hnw : nativeFrameWords "java/lang/System" "arraycopy" 5 + 11 ≤ 20 := by decide +kernel
      show 2 * 0 + _ + _ ≤ _
      omega)
  have e1 : copied (vp_cell (gC G 21) (sL S a0, .inl (fun j => Int32.ofInt (I a0 j)))) (vp_cell (gC G 21) (sL S a, .inl (fun j => Int32.ofInt (I a j)))) (Int32.ofInt sp) (Int32.ofInt dp) (Int32.ofInt n) = vp_cell (gC G 21) (sL S a, .inl (fun j => Int32.ofInt (va_cpy (I a0) (I a) sp.toNat dp.toNat n.toNat j))) := by
    have := va_copied (fun z => .int z) (gC G 21) (gC G 21) (n1 := sL S a) (n0 := sL S a0) (sp := (Int32.ofInt sp).toNatClampNeg) (dp := (Int32.ofInt dp).toNatClampNeg) (n := (Int32.ofInt n).toNatClampNeg) (fun j => Int32.ofInt (I a0 j)) (fun j => Int32.ofInt (I a j)) (by rw [hcs, hcn]; omega)
    refine Eq.trans (b := arrV (gC G 21) (sL S a) (fun j => .int (va_cpy (fun j => Int32.ofInt (I a0 j)) (fun j => Int32.ofInt (I a j)) (Int32.ofInt sp).toNatClampNeg (Int32.ofInt dp).toNatClampNeg (Int32.ofInt n).toNatClampNeg j))) this ?_
    rw [hcs, hcd, hcn, vp_cell_i]
    refine congrArg (arrV _ _) (funext fun q => ?_)
    unfold va_cpy
    split <;> rfl
  rw [e1] at X' step
  have hl : gB G + (a - 1) < Hm.size := (Array.getElem?_eq_some_iff.mp hc1).1
  generalize hnew : vp_cell (gC G 21) (sL S a, .inl (fun j => Int32.ofInt (va_cpy (I a0) (I a) sp.toNat dp.toNat n.toNat j))) = cnew at X' step
  have hheap : ((T.setVm vm').setCell (gB G + (a - 1)) cnew).heap = Hm.setIfInBounds (gB G + (a - 1)) cnew := by rw [← hTm]; rfl
  have oq : ∀ q : Nat, q ≠ gB G + (a - 1) → (Hm.setIfInBounds (gB G + (a - 1)) cnew)[q]? = Hm[q]? := fun q hq => by simp [Array.getElem?_setIfInBounds, Ne.symm hq]
  have hP := hF.2.1.1.set (wsOf_D G S I R) hw1 (e := .inl (gC G 21, sL S a, .inl (fun j => Int32.ofInt (va_cpy (I a0) (I a) sp.toNat dp.toNat n.toNat j)))) (H1 := Hm.setIfInBounds (gB G + (a - 1)) cnew) (by
    show (Hm.setIfInBounds _ _)[_]? = some (vp_cell _ _)
    rw [hnew]
    simp [Array.getElem?_setIfInBounds, hl]) oq
  rw [hset] at hP
  have hS2 : ∀ L : List Loc, (∀ q ∈ L, q.base = gB G + (a - 1)) → va_S (fun q => gB G ≤ q) s.heap (Hm.setIfInBounds (gB G + (a - 1)) cnew) (locs ++ L) := fun L hL => by
    refine ⟨by simp; exact hF.2.2.1, fun q g1 g2 => ?_, fun q hq => ?_⟩
    · rw [oq q (fun e => g2 (by rw [e]; show gB G ≤ gB G + (a - 1); omega))]
      exact hF.2.2.2.1 q g1 g2
    · rcases List.mem_append.mp hq with h | h
      · exact hF.2.2.2.2 q h
      · rw [hL q h]; show gB G ≤ gB G + (a - 1); omega
  have fin : ∀ L : List Loc, (∀ q ∈ L, q.base = gB G + (a - 1)) → W p l e Rm s m args below meth c (Hm.setIfInBounds (gB G + (a - 1)) cnew) (locs ++ L) cells slots Z (F0 m (pc + 3) lsM (st.map (mv G))) := fun L hL => by
    have := kk _ _ lsM ⟨hF.1, ⟨hP, by simp; exact hF.2.1.2⟩, hS2 L hL⟩
    simpa using this
  obtain ⟨t, a1, b1⟩ := fin _ (by
    intro q hq
    obtain ⟨z, -, hz⟩ := List.mem_map.mp hq
    rw [← hz]) _ hheap X'
  exact ⟨t, step t a1, b1⟩
theorem e_copyB {a0 : Nat} {sp dp n : Int} (hd : decode (mC μ) pc = .ok (.invokestatic idx, 3)) (hw : Cond.methodLink (mO μ) idx arraycopyName ∈ lw_t2 ∧ Cond.native arraycopyName ∈ lw_t2 ∧ Cond.static arraycopyName ∈ lw_t2 ∧ Cond.initialized "java/lang/System" ∈ lw_t2)
    (hk : 1 ≤ mK μ ∧ 40 ≤ mW μ) (hst : (st.map pcat).sum ≤ 8) (ht0 : sT S a0 = 22) (ht : sT S a = 22) (h1 : 0 ≤ sp) (h2 : 0 ≤ dp) (h3 : 0 ≤ n) (h4 : sp + n ≤ (sL S a0 : Int)) (h5 : dp + n ≤ (sL S a : Int))
    (k : E G μ (pc + 3) ls st S (up1 I a (va_cpy (I a0) (I a) sp.toNat dp.toNat n.toNat)) R Q) : E G μ pc ls (vI n :: vI dp :: vR a :: vI sp :: vR a0 :: st) S I R Q := by
  refine e_step (Nat.le_refl _) (Nat.le_refl _) (fun o1 o2 o3 o4 => ⟨o1, ?_, o3, vok_tl (vok_tl (vok_tl (vok_tl (vok_tl o4))))⟩) ?_ k
  · intro b j
    by_cases hb : b = a
    · subst hb
      rw [up1_s]
      unfold va_cpy
      have ha0 := o2 a0 (sp.toNat + (j - dp.toNat))
      rw [ht0] at ha0
      rw [ht]
      split
      · exact ha0
      · have := o2 b j
        rw [ht] at this
        exact this
    · rw [up1_n hb]; exact o2 b j
  intro p l e Rm s m args below meth c Hm locs cells slots lsM Z o1 o2 o3 o4 hC hc hs hF kk
  have hK := hC.2.2.2.2.2.2.2.2.1
  have hT := hC.2.2.2.2.2.2.2.2.2.1
  have hts := hC.2.2.2.2.1
  have in_n : InR n := vok_hd o4
  have in_d : InR dp := vok_hd (vok_tl o4)
  have in_s : InR sp := vok_hd (vok_tl (vok_tl (vok_tl o4)))
  obtain ⟨q1, q2, -⟩ := o1.2 a (by omega)
  obtain ⟨q3, q4, -⟩ := o1.2 a0 (by omega)
  have hw1 := wsOf_get G I R q1 q2
  rw [ht, cellE_int G (by omega) (by omega)] at hw1
  have hw0 := wsOf_get G I R q3 q4
  rw [ht0, cellE_int G (by omega) (by omega)] at hw0
  simp only [List.map_cons]
  rw [mv_ref G q1, mv_ref G q3]
  have neg : ∀ {z : Int}, InR z → 0 ≤ z → ¬ Int32.ofInt z < 0 := fun {z} hz h0 h => by
    rw [Int32.lt_iff_toInt_lt, o32 hz] at h
    have : z < 0 := h
    omega
  have hcs := cl_of in_s
  have hcd := cl_of in_d
  have hcn := cl_of in_n
  have hset := wsOf_set G (S := S) (I := I) (I' := up1 I a (va_cpy (I a0) (I a) sp.toNat dp.toNat n.toNat)) (R := R) (R' := R) q1 q2 (fun b hb => up1_n hb) (fun _ _ => rfl) (e := .inl (gC G 22, sL S a, .inl (fun j => Int32.ofInt (va_cpy (I a0) (I a) sp.toNat dp.toNat n.toNat j)))) (by rw [ht, cellE_int G (by omega) (by omega), up1_s])
  have hc0 : Hm[gB G + (a0 - 1)]? = some (vp_cell (gC G 22) (sL S a0, .inl (fun j => Int32.ofInt (I a0 j)))) := hF.2.1.1 _ _ hw0
  have hc1 : Hm[gB G + (a - 1)]? = some (vp_cell (gC G 22) (sL S a, .inl (fun j => Int32.ofInt (I a j)))) := hF.2.1.1 _ _ hw1
  have htyp := gT_at (t := 22) hT rfl
  obtain ⟨-, k0, hk0, cm0, hkk0⟩ := (hK.2 _ _ htyp).1 (sL S a0) (fun j => .int (Int32.ofInt (I a0 j)))
  obtain ⟨-, k1, hk1, cm1, hkk1⟩ := (hK.2 _ _ htyp).1 (sL S a) (fun j => .int (Int32.ofInt (I a j)))
  intro T hTm X
  obtain ⟨vm', X', step⟩ := X.arraycopy hC.1 hC.2.2.2.1 (hts _ hw.1) (hts _ hw.2.1) (hts _ hw.2.2.1) (hts _ hw.2.2.2) (src := gB G + (a0 - 1)) (dst := gB G + (a - 1)) (cs := vp_cell (gC G 22) (sL S a0, .inl (fun j => Int32.ofInt (I a0 j)))) (cd := vp_cell (gC G 22) (sL S a, .inl (fun j => Int32.ofInt (I a j)))) (srcPos := Int32.ofInt sp) (destPos := Int32.ofInt dp) (n := Int32.ofInt n) (by rw [hTm]; exact hc0) (by rw [hTm]; exact hc1)
    (fun _ h => by cases h) (fun _ h => by cases h) (fun h => by cases h) (fun h => by cases h) hk0 hk1 hkk0 hkk1 (by simp [refKind]) (neg in_s h1) (neg in_d h2) (neg in_n h3)
    (by rw [o32 in_s, o32 in_n]; show ¬ _ > ((arrV (gC G 22) (sL S a0) (fun j => .int (Int32.ofInt (I a0 j)))).slots.size : Int); rw [arrV_size]; omega)
    (by rw [o32 in_d, o32 in_n]; show ¬ _ > ((arrV (gC G 22) (sL S a) (fun j => .int (Int32.ofInt (I a j)))).slots.size : Int); rw [arrV_size]; omega)
    (fun vm₁ _ i hi => by
      rw [hcn] at hi
      have e : (vp_cell (gC G 22) (sL S a0, .inl (fun j => Int32.ofInt (I a0 j)))).slots.getD ((Int32.ofInt sp).toNatClampNeg + i) .null = .int (Int32.ofInt (I a0 (sp.toNat + i))) := by
        show (arrV (gC G 22) (sL S a0) (fun j => .int (Int32.ofInt (I a0 j)))).slots.getD _ _ = _
        rw [Array.getD_eq_getD_getElem?, hcs, arrV_read _ _ (by omega)]
        rfl
      refine ⟨?_, ?_⟩
      · rw [e]
        have h9 := o2 a0 (sp.toNat + i)
        rw [ht0] at h9
        exact fits_b h9
      · rw [e]; exact trivial)
    (g := F0 m pc lsM (.int (Int32.ofInt n) :: .int (Int32.ofInt dp) :: .ref (gB G + (a - 1)) :: .int (Int32.ofInt sp) :: .ref (gB G + (a0 - 1)) :: st.map (mv G))) rfl (by rw [hC.2.2.1]; exact hF.1.1) (rest := st.map (mv G)) rfl (by rw [hC.2.1]; exact hd) (by have := hC.2.2.2.2.2.2.2.2.2.2.1; omega) (by
      have hr1 := hC.2.2.2.2.2.2.2.2.2.2.2.1
      have hr0 : ((st.map (mv G)).map fun v => v.category).sum = (st.map pcat).sum := by rw [List.map_map]; congr 1; exact List.map_congr_left (fun v _ => mv_cat G v)
      have hnw : nativeFrameWords "java/lang/System" "arraycopy" 5 + 11 ≤ 20 := by decide +kernel
      show 2 * 0 + _ + _ ≤ _
      omega)
  have e1 : copied (vp_cell (gC G 22) (sL S a0, .inl (fun j => Int32.ofInt (I a0 j)))) (vp_cell (gC G 22) (sL S a, .inl (fun j => Int32.ofInt (I a j)))) (Int32.ofInt sp) (Int32.ofInt dp) (Int32.ofInt n) = vp_cell (gC G 22) (sL S a, .inl (fun j => Int32.ofInt (va_cpy (I a0) (I a) sp.toNat dp.toNat n.toNat j))) := by
    have := va_copied (fun z => .int z) (gC G 22) (gC G 22) (n1 := sL S a) (n0 := sL S a0) (sp := (Int32.ofInt sp).toNatClampNeg) (dp := (Int32.ofInt dp).toNatClampNeg) (n := (Int32.ofInt n).toNatClampNeg) (fun j => Int32.ofInt (I a0 j)) (fun j => Int32.ofInt (I a j)) (by rw [hcs, hcn]; omega)
    refine Eq.trans (b := arrV (gC G 22) (sL S a) (fun j => .int (va_cpy (fun j => Int32.ofInt (I a0 j)) (fun j => Int32.ofInt (I a j)) (Int32.ofInt sp).toNatClampNeg (Int32.ofInt dp).toNatClampNeg (Int32.ofInt n).toNatClampNeg j))) this ?_
    rw [hcs, hcd, hcn, vp_cell_i]
    refine congrArg (arrV _ _) (funext fun q => ?_)
    unfold va_cpy
    split <;> rfl
  rw [e1] at X' step
  have hl : gB G + (a - 1) < Hm.size := (Array.getElem?_eq_some_iff.mp hc1).1
  generalize hnew : vp_cell (gC G 22) (sL S a, .inl (fun j => Int32.ofInt (va_cpy (I a0) (I a) sp.toNat dp.toNat n.toNat j))) = cnew at X' step
  have hheap : ((T.setVm vm').setCell (gB G + (a - 1)) cnew).heap = Hm.setIfInBounds (gB G + (a - 1)) cnew := by rw [← hTm]; rfl
  have oq : ∀ q : Nat, q ≠ gB G + (a - 1) → (Hm.setIfInBounds (gB G + (a - 1)) cnew)[q]? = Hm[q]? := fun q hq => by simp [Array.getElem?_setIfInBounds, Ne.symm hq]
  have hP := hF.2.1.1.set (wsOf_D G S I R) hw1 (e := .inl (gC G 22, sL S a, .inl (fun j => Int32.ofInt (va_cpy (I a0) (I a) sp.toNat dp.toNat n.toNat j)))) (H1 := Hm.setIfInBounds (gB G + (a - 1)) cnew) (by
    show (Hm.setIfInBounds _ _)[_]? = some (vp_cell _ _)
    rw [hnew]
    simp [Array.getElem?_setIfInBounds, hl]) oq
  rw [hset] at hP
  have hS2 : ∀ L : List Loc, (∀ q ∈ L, q.base = gB G + (a - 1)) → va_S (fun q => gB G ≤ q) s.heap (Hm.setIfInBounds (gB G + (a - 1)) cnew) (locs ++ L) := fun L hL => by
    refine ⟨by simp; exact hF.2.2.1, fun q g1 g2 => ?_, fun q hq => ?_⟩
    · rw [oq q (fun e => g2 (by rw [e]; show gB G ≤ gB G + (a - 1); omega))]
      exact hF.2.2.2.1 q g1 g2
    · rcases List.mem_append.mp hq with h | h
      · exact hF.2.2.2.2 q h
      · rw [hL q h]; show gB G ≤ gB G + (a - 1); omega
  have fin : ∀ L : List Loc, (∀ q ∈ L, q.base = gB G + (a - 1)) → W p l e Rm s m args below meth c (Hm.setIfInBounds (gB G + (a - 1)) cnew) (locs ++ L) cells slots Z (F0 m (pc + 3) lsM (st.map (mv G))) := fun L hL => by
    have := kk _ _ lsM ⟨hF.1, ⟨hP, by simp; exact hF.2.1.2⟩, hS2 L hL⟩
    simpa using this
  obtain ⟨t, a1, b1⟩ := fin _ (by
    intro q hq
    obtain ⟨z, -, hz⟩ := List.mem_map.mp hq
    rw [← hz]) _ hheap X'
  exact ⟨t, step t a1, b1⟩
end ML
end
section
/-! ===== THE WALK: calls and returns ===== -/
theorem lw_good : GoodIn lw_t2 lw_t2 := fun w h => ⟨h, good_of_word (List.mem_filter.mp h).2⟩
section RT
variable {G : Gl} {μ : MB} {pc pc2 : Nat} {ls ls2 : Lc} {st st2 : List PV} {S S2 : Sh} {I I2 : MI} {R R2 : MR} {Q : PQ} {idx ci f a : Nat} {i x y : Int}
theorem e_retC {v : PV} (hst : retst G v = st.map (mv G)) (hr : okV st → vok v ∧ IsRet μ pc v) (hq : Q S I R v) : E G μ pc ls st S I R Q := by
  intro o1 o2 o3 o4
  refine ⟨S, I, R, v, hq, o1, o2, (hr o4).1, Nat.le_refl _, Nat.le_refl _, ?_⟩
  intro p l e Rm s m args below meth c Hm locs cells slots lsM Z hC hc hs hF kk
  have := kk Hm locs pc lsM hF.2.1 hF.2.2 (hr o4).2
  rw [hst] at this
  simpa using this
theorem e_ireturn (hd : decode (mC μ) pc = .ok (.ireturn, 1)) (hr : mR μ = some .int) (hq : Q S I R (vI x)) : E G μ pc ls [vI x] S I R Q :=
  e_retC (v := vI x) rfl (fun o => ⟨vok_hd o, Or.inl ⟨x, rfl, hd, Or.inl hr⟩⟩) hq
theorem e_zreturn (hd : decode (mC μ) pc = .ok (.ireturn, 1)) (hr : mR μ = some .boolean) (hx : x = 0 ∨ x = 1) (hq : Q S I R (vI x)) : E G μ pc ls [vI x] S I R Q :=
  e_retC (v := vI x) rfl (fun o => ⟨vok_hd o, Or.inl ⟨x, rfl, hd, Or.inr (Or.inl ⟨hr, hx⟩)⟩⟩) hq
theorem e_breturn (hd : decode (mC μ) pc = .ok (.ireturn, 1)) (hr : mR μ = some .byte) (hx : -128 ≤ x ∧ x < 128) (hq : Q S I R (vI x)) : E G μ pc ls [vI x] S I R Q :=
  e_retC (v := vI x) rfl (fun o => ⟨vok_hd o, Or.inl ⟨x, rfl, hd, Or.inr (Or.inr (Or.inl ⟨hr, hx⟩))⟩⟩) hq
theorem e_creturn (hd : decode (mC μ) pc = .ok (.ireturn, 1)) (hr : mR μ = some .char) (hx : 0 ≤ x ∧ x < 65536) (hq : Q S I R (vI x)) : E G μ pc ls [vI x] S I R Q :=
  e_retC (v := vI x) rfl (fun o => ⟨vok_hd o, Or.inl ⟨x, rfl, hd, Or.inr (Or.inr (Or.inr ⟨hr, hx⟩))⟩⟩) hq
theorem e_areturn {r : Nat} {C : String} (hd : decode (mC μ) pc = .ok (.areturn, 1)) (hr : ∃ n, mR μ = some (.object n)) (hq : Q S I R (vR r)) : E G μ pc ls [vR r] S I R Q := by
  obtain ⟨n, hr⟩ := hr
  exact e_retC (v := vR r) rfl (fun o => ⟨vok_hd o, Or.inr (Or.inl ⟨r, rfl, hd, _, hr, Or.inl ⟨n, rfl⟩⟩)⟩) hq
theorem e_areturnA {r : Nat} (hd : decode (mC μ) pc = .ok (.areturn, 1)) (hr : ∃ n, mR μ = some (.array n)) (hq : Q S I R (vR r)) : E G μ pc ls [vR r] S I R Q := by
  obtain ⟨n, hr⟩ := hr
  exact e_retC (v := vR r) rfl (fun o => ⟨vok_hd o, Or.inr (Or.inl ⟨r, rfl, hd, _, hr, Or.inr ⟨n, rfl⟩⟩)⟩) hq
theorem e_return (hd : decode (mC μ) pc = .ok (.return_, 1)) (hr : mR μ = none) (hq : Q S I R vS) : E G μ pc ls [] S I R Q :=
  e_retC (v := vS) rfl (fun o => ⟨trivial, Or.inr (Or.inr ⟨rfl, hd, hr⟩)⟩) hq
end RT
def lsArgs : Nat → List PV → Lc
  | _, [] => []
  | i, v :: vs => (i, v) :: lsArgs (i + pcat v) vs
theorem mls_args (G : Gl) : ∀ (i : Nat) (vs : List PV), lv_args i (vs.map (mv G)) = mls G (lsArgs i vs)
  | _, [] => rfl
  | i, v :: vs => by
    show (i, mv G v) :: lv_args (if (mv G v).category = 2 then i + 2 else i + 1) (vs.map (mv G)) = (i, mv G v) :: mls G (lsArgs (i + pcat v) vs)
    have h : (if (mv G v).category = 2 then i + 2 else i + 1) = i + pcat v := by
      rw [mv_cat]
      unfold pcat
      split <;> rfl
    rw [h, mls_args]
theorem sl_len (G : Gl) : ∀ vs : List PV, (lg_sl (vs.map (mv G))).length = (vs.map pcat).sum
  | [] => rfl
  | v :: vs => by
    have h := sl_len G vs
    show ((if (mv G v).category = 2 then [Slot.val (mv G v), Slot.second] else [Slot.val (mv G v)]) ++ lg_sl (vs.map (mv G))).length = pcat v + (vs.map pcat).sum
    rw [List.length_append, h, mv_cat]
    congr 1
    unfold pcat
    split <;> rfl
theorem lok_args : ∀ (i : Nat) (vs : List PV), okV vs → okL (lsArgs i vs)
  | _, [], _ => fun _ h => by cases h
  | i, v :: vs, h => lok_cons (vok_hd h) (lok_args _ vs (vok_tl h))
/-- the outcome of a return -/
def retv (G : Gl) : PV → Option Value
  | .inr (.inr 0) => none
  | v => some (mv G v)
theorem retv_st (G : Gl) (v : PV) : (retv G v).toList = retst G v := by
  match v with
  | .inl (.inl _) => rfl
  | .inl (.inr _) => rfl
  | .inr (.inr 0) => rfl
  | .inr (.inr (_ + 1)) => rfl
  | .inr (.inl 0) => rfl
  | .inr (.inl (_ + 1)) => rfl
def wsM (μ : MB) : List Cond := Cond.code (mY μ) (mC μ) (mL μ) (mR μ) :: lw_t2
def rmM (μ : MB) (mc ms : Nat) : Room := { frames := mK μ, cells := mc, slots := ms, locals := mW μ }
def pcM (G : Gl) (as : List PV) (S : Sh) (I : MI) (R : MR) : Array Value → State → Prop := fun a U => a = (as.map (mv G)).toArray ∧ MRel G S I R U.heap ∧ va_K (gD G) vwCl (gT G) U ∧ gB G ≤ U.heap.size ∧ va_X (gb G) (gL G) (gX G) U U.heap ∧ ExW G U U.heap
def qcM (G : Gl) (S : Sh) (I : MI) (R : MR) (v : PV) : Array Value → State → Outcome → State → Prop := fun _ s o t => o = .returned (retv G v) ∧ MRel G S I R t.heap ∧ va_F (fun q => gB G ≤ q) s t
theorem nar_c {x : Int} (h : 0 ≤ x ∧ x < 65536) : narrow .char (.int (Int32.ofInt x)) = .int (Int32.ofInt x) := by
  apply narrow_of_fits
  have e : (Int32.ofInt x).toInt = x := o32 (by unfold InR; omega)
  show ((0 : Int32) ≤ Int32.ofInt x && Int32.ofInt x ≤ (65535 : Int32)) = true
  rw [Bool.and_eq_true, decide_eq_true_iff, decide_eq_true_iff, Int32.le_iff_toInt_le, Int32.le_iff_toInt_le, e]
  exact ⟨h.1, by show x ≤ 65535; omega⟩
theorem met_of {G : Gl} {μ : MB} {l : Launch} {as : List PV} {S S' : Sh} {I I' : MI} {R R' : MR} {v : PV} (hy : plainName (mY μ).cls = true) (hown : mO μ = (mY μ).cls) (hlen : (as.map pcat).sum ≤ mL μ) (hT : (gT G).map Prod.snd = atyL ∧ gb G < gB G ∧ gL G ≤ 260)
    (hr : Run G μ 0 (lsArgs 0 as) [] S I R S' I' R' v) : Met l (mY μ) (wsM μ) (rmM μ (sN S' - sN S) (sU S' - sU S)) (pcM G as S I R) (qcM G S' I' R' v) (sN S' - sN S) (sU S' - sU S) (fun q => gB G ≤ q) := by
  obtain ⟨h1, h2, hrun⟩ := hr
  refine Met.ofW (cc := mC μ) (maxL := mL μ) (ret := mR μ) hy rfl ?_
  intro p e s m args below meth c s₁ B hml hv
  obtain ⟨rfl, hM, hK, hbs, hX, hEx⟩ := hv
  have hts := atoms_spec (ws := wsM μ) B.pre
  have hown' : s.vm.findClass (mY μ).cls = some m.cls := findClass_of_methodNamed B.named
  have hin : meth.name = (mY μ).name := (name_of_methodNamed B.named B.method).1
  have hl := lv_entry (as.map (mv G)) (n := mL μ) (by rw [sl_len]; exact hlen)
  rw [mls_args] at hl
  rw [lg_entry_eq]
  have hrr := B.returns
  have hlocks := B.notSynchronized
  have hbb := B.bytes
  have hxx := B.exec
  refine hrun p l e _ s m _ below meth c s.heap [] 0 0 _ _ ⟨B.exec, B.bytes, hml, by rw [hown]; exact hown', fun w hw => hts w (List.mem_cons_of_mem _ hw), B.returns, B.notSynchronized, fun h => hin.trans h, hK, hT.1, Nat.le_refl _, Nat.le_refl _, hbs, hT.2.1, hX, hT.2.2, hEx⟩ (by show _ ≤ sN S' - sN S; omega) (by show _ ≤ sU S' - sU S; omega) ⟨hl, hM, va_S.rf⟩ ?_
  intro Hm' locs' pc' ls' hM' hS' hret
  rw [Nat.zero_add, Nat.zero_add]
  have hq : ∀ t : State, t.heap = Hm' → s.WarmedH t.vm → qcM G S' I' R' v (as.map (mv G)).toArray s (.returned (retv G v)) t := fun t ht _ => ⟨rfl, by rw [ht]; exact hM', hS'.F ht⟩
  have hf : ∀ q ∈ locs', gB G ≤ q.base := hS'.2.2
  rcases hret with ⟨x, rfl, hd, hmr⟩ | ⟨r, rfl, hd, rt, hmr, hrt⟩ | ⟨rfl, hd, hmr⟩
  · rcases hmr with hmr | ⟨hmr, hx⟩ | ⟨hmr, hx⟩ | ⟨hmr, hx⟩
    · exact W.iret hxx hbb (hrr.trans hmr) hq hf hd hlocks
    · exact W.zret (ty := .boolean) hxx hbb (hrr.trans hmr) (by rcases hx with rfl | rfl <;> rfl) hq hf hd hlocks
    · exact W.zret (ty := .byte) hxx hbb (hrr.trans hmr) (nar_b hx) hq hf hd hlocks
    · exact W.zret (ty := .char) hxx hbb (hrr.trans hmr) (nar_c hx) hq hf hd hlocks
  · have hret1 : retst G (vR r) = [mv G (vR r)] := rfl
    have hretv : retv G (vR r) = some (mv G (vR r)) := rfl
    rw [hretv] at hq
    rw [hret1]
    exact W.aret hxx hbb (hrr.trans hmr) hrt (by cases r with
      | zero => exact Or.inl rfl
      | succ k => exact Or.inr ⟨_, rfl⟩) hq hf hd hlocks
  · exact W.vret hxx hbb (hrr.trans hmr) hq hf hd hlocks
end
section
/-! ===== THE WALK: calls ===== -/
def retl : PV → List PV
  | .inr (.inr 0) => []
  | v => [v]
theorem retl_map (G : Gl) (v : PV) (st : List PV) : (retv G v).toList ++ st.map (mv G) = (retl v ++ st).map (mv G) := by
  match v with
  | .inl (.inl _) => rfl
  | .inl (.inr _) => rfl
  | .inr (.inr 0) => rfl
  | .inr (.inr (_ + 1)) => rfl
  | .inr (.inl 0) => rfl
  | .inr (.inl (_ + 1)) => rfl
theorem okV_retl {v : PV} {st : List PV} (h : vok v) (hs : okV st) : okV (retl v ++ st) := by
  match v, h with
  | .inl (.inl x), h => exact vok_cons (v := vI x) h hs
  | .inl (.inr x), h => exact vok_cons (v := vL x) h hs
  | .inr (.inr 0), _ => exact hs
  | .inr (.inl r), h => exact vok_cons (v := vR r) h hs
  | .inr (.inr (k + 1)), h => exact vok_cons (v := vO (k + 1)) h hs
theorem ExA.same {u U : State} (h : u.vm = U.vm) (hE : ExA u) : ExA U := by
  have hal : u.vm.Alike U.vm := by rw [h]; exact Vm.Alike.refl _
  refine ⟨fun w hw => ?_, hE.2.1.moved hal, hE.2.2.1.moved hal, hE.2.2.2.1.moved hal, hE.2.2.2.2.1.moved hal, va_Nw.same rfl h hE.2.2.2.2.2⟩
  have h1 := hE.1 w hw
  have h2 := (List.mem_filter.mp hw).2
  cases w with
  | methodLinkNest a i x hh => exact va_Nw.same rfl h h1
  | _ => cases h2
theorem ExW.same {G : Gl} {u U : State} {H : Heap} (h : u.vm = U.vm) (hE : ExW G u H) : ExW G U H := ⟨ExA.same h hE.1, va_Old.same h hE.2⟩
theorem pcM_blind (G : Gl) (as : List PV) (S : Sh) (I : MI) (R : MR) : FrameBlind (pcM G as S I R) := by
  intro a U g mk h
  obtain ⟨h1, h2, h3, h4, h5, h6⟩ := h
  exact ⟨h1, h2, va_K.moved (u := U) (U := U.calling g mk a) (Vm.Alike.refl U.vm) h3, h4, va_X.moved (u := U) (U := U.calling g mk a) (Vm.Alike.refl U.vm) h5, ExW.same (u := U) (U := U.calling g mk a) rfl h6⟩
def mOK (μ : MB) (n : Nat) : Prop := Cond.code (mY μ) (mC μ) (mL μ) (mR μ) ∈ lw_t2 ∧ plainName (mY μ).cls = true ∧ mO μ = (mY μ).cls ∧ ((mY μ).cls ≠ "java/lang/invoke/MethodHandle" ∧ (mY μ).cls ≠ "java/lang/invoke/VarHandle" ∧ (parseMethodDescriptor (mY μ).desc).map (fun d => d.parameters.length) = some n) ∧ mL μ ≤ 150 ∧ Cond.initialized (mY μ).cls ∈ lw_t2
theorem good_in {w : Cond} (h : w ∈ lw_t2) : w ∈ lw_t2 ∧ ((w.onTables && w.keeps) = true ∨ ∃ ty, w = .arrayClass ty) := ⟨h, good_of_word (List.mem_filter.mp h).2⟩
theorem good_ws {μ : MB} {n : Nat} (h : mOK μ n) : GoodIn lw_t2 (wsM μ) := fun w hw => by
  rcases List.mem_cons.mp hw with rfl | hw
  · exact good_in h.1
  · exact lw_good w hw
section CL
variable {G : Gl} {μ μ' : MB} {pc pc2 : Nat} {ls ls2 : Lc} {st st2 as : List PV} {S S2 : Sh} {I I2 : MI} {R R2 : MR} {Q Q' : PQ} {idx ci f a n : Nat} {i x y : Int}
theorem e_callC (hok : mOK μ' n) (hk : mK μ' < mK μ ∧ mL μ' + mW μ' + 19 ≤ mW μ) (hlen : (as.map pcat).sum ≤ mL μ')
    (hrun : ∀ (p : Program) (l : Launch) (e : Env) (Rm : Room) (s : State) (m : MethodId) (args : Array Value) (below : List Frame) (meth : Method) (c : Code) (Hm : Heap) (locs : List Loc) (cells slots : Nat) (lsM : Array Slot) (mc ms : Nat) (Qc : Array Value → State → Outcome → State → Prop),
      okS S → Cx G μ p Rm s m args meth c → MRel G S I R Hm → lsM.size = mL μ → Met l (mY μ') (wsM μ') (rmM μ' mc ms) (pcM G as S I R) Qc mc ms (fun q => gB G ≤ q) → (rmM μ' mc ms).frames + 1 ≤ Rm.frames ∧ 8 + (mL μ' + 11) + (rmM μ' mc ms).locals ≤ Rm.locals → cells + mc ≤ Rm.cells ∧ slots + ms ≤ Rm.slots →
      (FrameBlind (pcM G as S I R) ∧ ∀ U : State, U.heap = Hm → s.WarmedH U.vm → pcM G as S I R (as.map (mv G)).toArray U) →
      va_Run p l e Rm s m args below meth c Hm locs cells slots mc ms (F0 m pc lsM ((as.reverse ++ st).map (mv G))) (st.map (mv G)) (Qc (as.map (mv G)).toArray) (fun q => gB G ≤ q))
    (k : E G μ' 0 (lsArgs 0 as) [] S I R Q') (kk : ∀ S' I' R' v, Q' S' I' R' v → E G μ (pc + 3) ls (retl v ++ st) S' I' R' Q) : E G μ pc ls (as.reverse ++ st) S I R Q := by
  intro o1 o2 o3 o4
  have oas : okV as := fun v hv => o4 v (List.mem_append_left _ (List.mem_reverse.mpr hv))
  have ost : okV st := fun v hv => o4 v (List.mem_append_right _ hv)
  obtain ⟨S1, I1, R1, v1, hq1, p1, p2, p3, hr1⟩ := k o1 o2 (lok_args 0 as oas) (fun _ h => by cases h)
  obtain ⟨S2, I2, R2, v2, hq2, p4, p5, p6, hr2⟩ := kk _ _ _ _ hq1 p1 p2 o3 (okV_retl p3 ost)
  have hn1 := hr1.1
  have hu1 := hr1.2.1
  have hn2 := hr2.1
  have hu2 := hr2.2.1
  refine ⟨S2, I2, R2, v2, hq2, p4, p5, p6, Nat.le_trans hn1 hn2, Nat.le_trans hu1 hu2, ?_⟩
  intro p l e Rm s m args below meth c Hm locs cells slots lsM Z hC hc hs hF kz
  have hMet := met_of (l := l) hok.2.1 hok.2.2.1 hlen ⟨hC.2.2.2.2.2.2.2.2.2.1, hC.2.2.2.2.2.2.2.2.2.2.2.2.2.1, hC.2.2.2.2.2.2.2.2.2.2.2.2.2.2.2.1⟩ hr1
  have hK := hC.2.2.2.2.2.2.2.2.1
  have hbs := hC.2.2.2.2.2.2.2.2.2.2.2.2.1
  have hbb := hC.2.2.2.2.2.2.2.2.2.2.2.2.2.1
  have hX := hC.2.2.2.2.2.2.2.2.2.2.2.2.2.2.1
  have hEx := hC.2.2.2.2.2.2.2.2.2.2.2.2.2.2.2.2
  have hfr := hC.2.2.2.2.2.2.2.2.2.2.1
  have hlo := hC.2.2.2.2.2.2.2.2.2.2.2.1
  have hbl : gb G < s.heap.size := Nat.lt_of_lt_of_le hbb hbs
  have hX' : va_X (gb G) (gL G) (gX G) s Hm := hX.kept (hF.2.2.2.1 (gb G) hbl (Nat.not_le.mpr hbb))
  have hr := hrun p l e Rm s m args below meth c Hm locs cells slots lsM (sN S1 - sN S) (sU S1 - sU S) _ o1 hC hF.2.1 hF.1.1 hMet (by
      have := hok.2.2.2.2.1
      show mK μ' + 1 ≤ Rm.frames ∧ 8 + (mL μ' + 11) + mW μ' ≤ Rm.locals
      omega) ⟨by omega, by omega⟩ ⟨pcM_blind G as S I R, fun U hU hW => ⟨rfl, by rw [hU]; exact hF.2.1, hK.moved hW.alike, by rw [hU]; exact Nat.le_trans hbs hF.2.2.1, by rw [hU]; exact hX'.moved hW.alike, by rw [hU]; exact ExW.warm hW ⟨hEx.1, hEx.2.kept (fun q g1 g2 => hF.2.2.2.1 q g1 g2)⟩⟩⟩
  intro T hT X
  obtain ⟨v, st₀, t, T', L, h0, X', hL, e1, e2, ⟨hov, hM1, hF1⟩, step⟩ := hr T hT X
  cases hov
  have hS' : va_S (fun q => gB G ≤ q) s.heap T'.heap (locs ++ L) := by
    refine ⟨Nat.le_trans hF.2.2.1 (by rw [e1, ← h0]; exact hF1.1), fun q g1 g2 => ?_, fun q hq => ?_⟩
    · rw [e1, hF1.2 q (by rw [h0]; exact Nat.lt_of_lt_of_le g1 hF.2.2.1) g2, h0]
      exact hF.2.2.2.1 q g1 g2
    · rcases List.mem_append.mp hq with h | h
      · exact hF.2.2.2.2 q h
      · exact hL q h
  obtain ⟨t2, a1, b1⟩ := hr2.2.2 p l e Rm s m args below meth c T'.heap (locs ++ L) (cells + (sN S1 - sN S)) (slots + (sU S1 - sU S)) lsM Z hC (by omega) (by omega) ⟨hF.1, by rw [e1]; exact hM1, hS'⟩ (fun Hm' locs' pc' ls' g1 g2 g3 => by
    rw [show cells + (sN S1 - sN S) + (sN S2 - sN S1) = cells + (sN S2 - sN S) by omega, show slots + (sU S1 - sU S) + (sU S2 - sU S1) = slots + (sU S2 - sU S) by omega]
    exact kz Hm' locs' pc' ls' g1 g2 g3) T' rfl X'
  refine ⟨t2, step t2 ?_, b1⟩
  rw [← retl_map] at a1
  exact a1
theorem cat_sum (G : Gl) {st : List PV} {k : Nat} (h : (st.map pcat).sum ≤ k) : ((st.map (mv G)).map fun v => v.category).sum ≤ k := by
  have : ((st.map (mv G)).map fun v => v.category).sum = (st.map pcat).sum := by rw [List.map_map]; congr 1; exact List.map_congr_left (fun v _ => mv_cat G v)
  omega
/-- an instance method, by its receiver's own class -/
theorem e_invV {r : Nat} {as : List PV} (hd : decode (mC μ) pc = .ok (.invokevirtual idx, 3)) (hok : mOK μ' n) (hw : Cond.methodLink (mO μ) idx (mY μ') ∈ lw_t2 ∧ Cond.instanceMethod (mY μ') ∈ lw_t2 ∧ Cond.selects (mY μ').cls (mY μ') (mY μ') ∈ lw_t2) (hk : mK μ' < mK μ ∧ mL μ' + mW μ' + 19 ≤ mW μ) (hlen : ((vR r :: as).map pcat).sum ≤ mL μ') (hn : as.length = n) (hst : (st.map pcat).sum ≤ 8)
    (hci : ci < 11 ∧ clC ci = (mY μ').cls) (ht : sT S r = ci + 1)
    (k : E G μ' 0 (lsArgs 0 (vR r :: as)) [] S I R Q') (kk : ∀ S' I' R' v, Q' S' I' R' v → E G μ (pc + 3) ls (retl v ++ st) S' I' R' Q) : E G μ pc ls ((vR r :: as).reverse ++ st) S I R Q := by
  refine e_callC hok hk hlen ?_ k kk
  intro p l e Rm s m args below meth c Hm locs cells slots lsM mc ms Qc o1 hC hM hsz hMet hR hf hp
  obtain ⟨h1, h2⟩ := tag_in o1 ht
  have hwr := wsOf_get G I R h1 h2
  rw [ht, cellE_cls G hci.1] at hwr
  have hts := hC.2.2.2.2.1
  have hrecv := va_recv hC.2.2.2.2.2.2.2.2.1 hM.1 (clOK_all ci hci.1).1 hwr
  rw [hci.2] at hrecv
  have hgood : GoodIn lw_t2 (wsV (mO μ) idx (mY μ').cls (mY μ') (wsM μ')) := fun w hw' => by
    unfold wsV at hw'
    rcases List.mem_append.mp hw' with h | h
    · simp only [List.mem_cons, List.not_mem_nil, or_false] at h
      rcases h with rfl | rfl | rfl | rfl
      · exact good_in hw.1
      · exact good_in hw.2.1
      · exact good_in hw.2.2
      · exact good_in hok.2.2.2.2.2
    · exact good_ws hok w h
  have hcw : CallW Rm s args (mO μ) (mY μ').cls idx (mY μ') (mC μ') (mL μ') (mR μ') (wsM μ') (rmM μ' mc ms) mc ms n := cwV n hts hgood rfl rfl rfl ⟨rfl, hok.2.2.2.1⟩ hR
  have hmv : mv G (vR r) = .ref (gB G + (r - 1)) := mv_ref G h1
  have hrun := va_runV (l := l) (e := e) (below := below) (meth := meth) (locs := locs) (cells := cells) (slots := slots) (As := as.map (mv G)) (rest := st.map (mv G)) (b := gB G + (r - 1)) (g := F0 m pc lsM ((as.map (mv G)).reverse ++ .ref (gB G + (r - 1)) :: st.map (mv G))) ⟨hC.1, hC.2.1, hC.2.2.1, hC.2.2.2.1, hts⟩ hMet hcw ⟨hp.1, hrecv, fun U hU hW => by
    have := hp.2 U hU hW
    rw [List.map_cons, hmv] at this
    exact this⟩ rfl (by rw [List.length_map]; exact hn) hsz rfl (lv_room (by have := cat_sum G hst; omega)) hd hf
  rw [show ((vR r :: as).reverse ++ st).map (mv G) = (as.map (mv G)).reverse ++ .ref (gB G + (r - 1)) :: st.map (mv G) by simp [← hmv], show ((vR r :: as).map (mv G)).toArray = (Value.ref (gB G + (r - 1)) :: as.map (mv G)).toArray by rw [List.map_cons, hmv]]
  exact hrun
theorem e_invS {as : List PV} (hd : decode (mC μ) pc = .ok (.invokestatic idx, 3)) (hok : mOK μ' n) (hw : Cond.methodLink (mO μ) idx (mY μ') ∈ lw_t2 ∧ Cond.static (mY μ') ∈ lw_t2) (hk : mK μ' < mK μ ∧ mL μ' + mW μ' + 19 ≤ mW μ) (hlen : (as.map pcat).sum ≤ mL μ') (hn : as.length = n) (hst : (st.map pcat).sum ≤ 8)
    (k : E G μ' 0 (lsArgs 0 as) [] S I R Q') (kk : ∀ S' I' R' v, Q' S' I' R' v → E G μ (pc + 3) ls (retl v ++ st) S' I' R' Q) : E G μ pc ls (as.reverse ++ st) S I R Q := by
  refine e_callC hok hk hlen ?_ k kk
  intro p l e Rm s m args below meth c Hm locs cells slots lsM mc ms Qc o1 hC hM hsz hMet hR hf hp
  have hts := hC.2.2.2.2.1
  have hgood : GoodIn lw_t2 (va_wsS (mO μ) idx (mY μ') (wsM μ')) := fun w hw' => by
    unfold va_wsS at hw'
    rcases List.mem_append.mp hw' with h | h
    · simp only [List.mem_cons, List.not_mem_nil, or_false] at h
      rcases h with rfl | rfl | rfl
      · exact good_in hw.1
      · exact good_in hw.2
      · exact good_in hok.2.2.2.2.2
    · exact good_ws hok w h
  have hcw := va_cwS (R := Rm) (args := args) (rm := rmM μ' mc ms) (mc := mc) (ms := ms) n hts hgood rfl rfl rfl hok.2.2.2.1 hR
  have hrun := va_runS (l := l) (e := e) (below := below) (meth := meth) (locs := locs) (cells := cells) (slots := slots) (As := as.map (mv G)) (rest := st.map (mv G)) (g := F0 m pc lsM ((as.map (mv G)).reverse ++ st.map (mv G))) ⟨hC.1, hC.2.1, hC.2.2.1, hC.2.2.2.1, hts⟩ hMet hcw hp rfl (by rw [List.length_map]; exact hn) hsz rfl (lv_room (by have := cat_sum G hst; omega)) hd hf
  rw [show (as.reverse ++ st).map (mv G) = (as.map (mv G)).reverse ++ st.map (mv G) by simp]
  exact hrun
theorem e_invI {r : Nat} {as : List PV} (hd : decode (mC μ) pc = .ok (.invokespecial idx, 3)) (hok : mOK μ' n) (hw : Cond.methodLink (mO μ) idx (mY μ') ∈ lw_t2 ∧ Cond.instanceMethod (mY μ') ∈ lw_t2) (hin : (mY μ').name = "<init>" ∧ mR μ' = none) (hk : mK μ' < mK μ ∧ mL μ' + mW μ' + 19 ≤ mW μ) (hlen : ((vR r :: as).map pcat).sum ≤ mL μ') (hn : as.length = n) (hst : (st.map pcat).sum ≤ 8) (hr : sT S r ≠ 0)
    (k : E G μ' 0 (lsArgs 0 (vR r :: as)) [] S I R Q') (kk : ∀ S' I' R' v, Q' S' I' R' v → E G μ (pc + 3) ls (retl v ++ st) S' I' R' Q) : E G μ pc ls ((vR r :: as).reverse ++ st) S I R Q := by
  refine e_callC hok hk hlen ?_ k kk
  intro p l e Rm s m args below meth c Hm locs cells slots lsM mc ms Qc o1 hC hM hsz hMet hR hf hp
  have hts := hC.2.2.2.2.1
  have h1 := (o1.2 r hr).1
  have hmv : mv G (vR r) = .ref (gB G + (r - 1)) := mv_ref G h1
  have hret : wsM μ' = Cond.code (mY μ') (mC μ') (mL μ') none :: lw_t2 := by unfold wsM; rw [hin.2]
  have hcw := cwI (R := Rm) (args := args) (own := mO μ) (index := idx) (rm := rmM μ' mc ms) (mc := mc) (ms := ms) n hts (good_ws hok) hret rfl rfl (hts _ hok.2.2.2.2.2) (hts _ hw.1) (hts _ hw.2) hin.1 hok.2.2.2.1 hR
  have hrun := va_runI (l := l) (e := e) (below := below) (meth := meth) (locs := locs) (cells := cells) (slots := slots) (As := as.map (mv G)) (rest := st.map (mv G)) (b := gB G + (r - 1)) (g := F0 m pc lsM ((as.map (mv G)).reverse ++ .ref (gB G + (r - 1)) :: st.map (mv G))) ⟨hC.1, hC.2.1, hC.2.2.1, hC.2.2.2.1, hts⟩ hMet hcw ⟨hp.1, fun U hU hW => by
    have := hp.2 U hU hW
    rw [List.map_cons, hmv] at this
    exact this⟩ rfl (by rw [List.length_map]; exact hn) hsz rfl (lv_room (by have := cat_sum G hst; omega)) hd hf
  rw [show ((vR r :: as).reverse ++ st).map (mv G) = (as.map (mv G)).reverse ++ .ref (gB G + (r - 1)) :: st.map (mv G) by simp [← hmv], show ((vR r :: as).map (mv G)).toArray = (Value.ref (gB G + (r - 1)) :: as.map (mv G)).toArray by rw [List.map_cons, hmv]]
  exact hrun
end CL
end
section
/-! ===== THE WALK: calls across the nest, Object's constructor, the script; the law's end ===== -/
section NE
variable {G : Gl} {μ μ' : MB} {pc pc2 : Nat} {ls ls2 : Lc} {st st2 as : List PV} {S S2 : Sh} {I I2 : MI} {R R2 : MR} {Q Q' : PQ} {idx ci f a n : Nat} {i x y : Int}
theorem e_invSN {host : String} {as : List PV} (hd : decode (mC μ) pc = .ok (.invokestatic idx, 3)) (hok : mOK μ' n) (hw : Cond.methodLinkNest (mO μ) idx (mY μ') host ∈ lw_n ∧ Cond.static (mY μ') ∈ lw_t2) (hk : mK μ' < mK μ ∧ mL μ' + mW μ' + 19 ≤ mW μ) (hlen : (as.map pcat).sum ≤ mL μ') (hn : as.length = n) (hst : (st.map pcat).sum ≤ 8)
    (k : E G μ' 0 (lsArgs 0 as) [] S I R Q') (kk : ∀ S' I' R' v, Q' S' I' R' v → E G μ (pc + 3) ls (retl v ++ st) S' I' R' Q) : E G μ pc ls (as.reverse ++ st) S I R Q := by
  refine e_callC hok hk hlen ?_ k kk
  intro p l e Rm s m args below meth c Hm locs cells slots lsM mc ms Qc o1 hC hM hsz hMet hR hf hp
  have hts := hC.2.2.2.2.1
  have hEx := hC.2.2.2.2.2.2.2.2.2.2.2.2.2.2.2.2
  have hcw := va_cnB (R := Rm) (args := args) (rm := rmM μ' mc ms) (mc := mc) (ms := ms) n hts (good_ws hok) rfl rfl rfl (hEx.1.1 _ hw.1) (hts _ hok.2.2.2.2.2) hok.2.2.2.1 hR
  have hrun := va_runSN (l := l) (e := e) (below := below) (meth := meth) (locs := locs) (cells := cells) (slots := slots) (As := as.map (mv G)) (rest := st.map (mv G)) (g := F0 m pc lsM ((as.map (mv G)).reverse ++ st.map (mv G))) ⟨hC.1, hC.2.1, hC.2.2.1, hC.2.2.2.1, hts⟩ hMet ⟨hcw, hts _ hw.2, trivial⟩ hp rfl (by rw [List.length_map]; exact hn) hsz rfl (lv_room (by have := cat_sum G hst; omega)) hd hf
  rw [show (as.reverse ++ st).map (mv G) = (as.map (mv G)).reverse ++ st.map (mv G) by simp]
  exact hrun
theorem e_invIN {host : String} {r : Nat} {as : List PV} (hd : decode (mC μ) pc = .ok (.invokespecial idx, 3)) (hok : mOK μ' n) (hw : Cond.methodLinkNest (mO μ) idx (mY μ') host ∈ lw_n ∧ Cond.instanceMethod (mY μ') ∈ lw_t2) (hin : (mY μ').name = "<init>" ∧ mR μ' = none) (hk : mK μ' < mK μ ∧ mL μ' + mW μ' + 19 ≤ mW μ) (hlen : ((vR r :: as).map pcat).sum ≤ mL μ') (hn : as.length = n) (hst : (st.map pcat).sum ≤ 8) (hr : sT S r ≠ 0)
    (k : E G μ' 0 (lsArgs 0 (vR r :: as)) [] S I R Q') (kk : ∀ S' I' R' v, Q' S' I' R' v → E G μ (pc + 3) ls (retl v ++ st) S' I' R' Q) : E G μ pc ls ((vR r :: as).reverse ++ st) S I R Q := by
  refine e_callC hok hk hlen ?_ k kk
  intro p l e Rm s m args below meth c Hm locs cells slots lsM mc ms Qc o1 hC hM hsz hMet hR hf hp
  have hts := hC.2.2.2.2.1
  have hEx := hC.2.2.2.2.2.2.2.2.2.2.2.2.2.2.2.2
  have h1 := (o1.2 r hr).1
  have hmv : mv G (vR r) = .ref (gB G + (r - 1)) := mv_ref G h1
  have hret : wsM μ' = Cond.code (mY μ') (mC μ') (mL μ') none :: lw_t2 := by unfold wsM; rw [hin.2]
  have hcw := va_cnB (R := Rm) (args := args) (rm := rmM μ' mc ms) (mc := mc) (ms := ms) n hts (good_ws hok) hret rfl rfl (hEx.1.1 _ hw.1) (hts _ hok.2.2.2.2.2) hok.2.2.2.1 hR
  have hrun := va_runIN (l := l) (e := e) (below := below) (meth := meth) (locs := locs) (cells := cells) (slots := slots) (As := as.map (mv G)) (rest := st.map (mv G)) (b := gB G + (r - 1)) (g := F0 m pc lsM ((as.map (mv G)).reverse ++ .ref (gB G + (r - 1)) :: st.map (mv G))) ⟨hC.1, hC.2.1, hC.2.2.1, hC.2.2.2.1, hts⟩ hMet ⟨hcw, hin.1, hts _ hw.2⟩ ⟨hp.1, fun U hU hW => by
    have := hp.2 U hU hW
    rw [List.map_cons, hmv] at this
    exact this⟩ rfl (by rw [List.length_map]; exact hn) hsz rfl (lv_room (by have := cat_sum G hst; omega)) hd hf
  rw [show ((vR r :: as).reverse ++ st).map (mv G) = (as.map (mv G)).reverse ++ .ref (gB G + (r - 1)) :: st.map (mv G) by simp [← hmv], show ((vR r :: as).map (mv G)).toArray = (Value.ref (gB G + (r - 1)) :: as.map (mv G)).toArray by rw [List.map_cons, hmv]]
  exact hrun
theorem e_objI {r : Nat} (hd : decode (mC μ) pc = .ok (.invokespecial idx, 3)) (hw : Cond.methodLink (mO μ) idx Lib.objectInit ∈ lw_t2 ∧ Cond.instanceMethod Lib.objectInit ∈ lw_t2 ∧ Cond.code Lib.objectInit ⟨#[0xb1]⟩ 1 none ∈ lw_t2) (hk : 1 ≤ mK μ ∧ 40 ≤ mW μ) (hst : (st.map pcat).sum ≤ 8) (hr : sT S r ≠ 0) (k : E G μ (pc + 3) ls st S I R Q) : E G μ pc ls (vR r :: st) S I R Q := by
  refine e_go (fun _ _ h => vok_tl h) (fun p l e Rm s m args below meth c Hm locs cells slots lsM Z o1 _ _ o4 hC hx hb hF kk => ?_) k
  have hts := hC.2.2.2.2.1
  have h1 := (o1.2 r hr).1
  have hfr := hC.2.2.2.2.2.2.2.2.2.2.1
  have hlo := hC.2.2.2.2.2.2.2.2.2.2.2.1
  rw [List.map_cons, mv_ref G h1]
  refine W.objInit hx hb hC.2.2.2.1 (hts _ hw.1) (hts _ hw.2.1) (hts _ hw.2.2) rfl (by rw [hC.2.2.1]; exact hF.1.1) rfl hd (by omega) ?_ kk
  have := cat_sum G hst
  show 2 * 0 + _ + 12 ≤ _
  omega
theorem e_slen (hd : decode (mC μ) pc = .ok (.arraylength, 1)) (k : E G μ (pc + 1) ls (vI (gL G : Int) :: st) S I R Q) (hL : gL G ≤ 260) : E G μ pc ls (vS :: st) S I R Q := by
  refine e_go (fun _ _ h => vok_cons (v := vI _) (by show InR _; unfold InR; omega) (vok_tl h)) (fun p l e Rm s m args below meth c Hm locs cells slots lsM Z o1 _ _ o4 hC hx hb hF kk => ?_) k
  have hbs := hC.2.2.2.2.2.2.2.2.2.2.2.2.1
  have hbb := hC.2.2.2.2.2.2.2.2.2.2.2.2.2.1
  have hX := hC.2.2.2.2.2.2.2.2.2.2.2.2.2.2.1
  exact va_slen hx hb hX (Nat.lt_of_lt_of_le hbb hbs) (Nat.not_le.mpr hbb) hF.2.2 hd kk
theorem e_sld (hd : decode (mC μ) pc = .ok (.iaload, 1)) (hi : 0 ≤ i ∧ i < (gL G : Int)) (k : E G μ (pc + 1) ls (vI (gX G i.toNat).toInt :: st) S I R Q) : E G μ pc ls (vI i :: vS :: st) S I R Q := by
  refine e_go (fun _ _ h => vok_cons (v := vI _) (InR_toInt _) (vok_tl (vok_tl h))) (fun p l e Rm s m args below meth c Hm locs cells slots lsM Z o1 _ _ o4 hC hx hb hF kk => ?_) k
  have hbs := hC.2.2.2.2.2.2.2.2.2.2.2.2.1
  have hbb := hC.2.2.2.2.2.2.2.2.2.2.2.2.2.1
  have hX := hC.2.2.2.2.2.2.2.2.2.2.2.2.2.2.1
  have hii : InR i := vok_hd o4
  refine va_sld (i := Int32.ofInt i) hx hb hX (Nat.lt_of_lt_of_le hbb hbs) (Nat.not_le.mpr hbb) hF.2.2 (in_of hii hi) hd ?_
  rw [cl_of hii]
  have : mv G (vI (gX G i.toNat).toInt) = .int (gX G i.toNat) := congrArg Value.int (Int32.ofInt_toInt _)
  rw [List.map_cons, this] at kk
  exact kk
end NE
-- the typed ends of methods
abbrev qI (Q : Sh → MI → MR → Int → Prop) : PQ := fun S I R v => ∃ x, v = vI x ∧ Q S I R x
abbrev qR (Q : Sh → MI → MR → Nat → Prop) : PQ := fun S I R v => ∃ r, v = vR r ∧ Q S I R r
abbrev qV (Q : Sh → MI → MR → Prop) : PQ := fun S I R v => v = vS ∧ Q S I R
def CI (G : Gl) (μ : MB) (as : List PV) (S : Sh) (I : MI) (R : MR) (Q : Sh → MI → MR → Int → Prop) : Prop := E G μ 0 (lsArgs 0 as) [] S I R (qI Q)
def CR (G : Gl) (μ : MB) (as : List PV) (S : Sh) (I : MI) (R : MR) (Q : Sh → MI → MR → Nat → Prop) : Prop := E G μ 0 (lsArgs 0 as) [] S I R (qR Q)
def CV (G : Gl) (μ : MB) (as : List PV) (S : Sh) (I : MI) (R : MR) (Q : Sh → MI → MR → Prop) : Prop := E G μ 0 (lsArgs 0 as) [] S I R (qV Q)
theorem CI.mono {G : Gl} {μ : MB} {as : List PV} {S : Sh} {I : MI} {R : MR} {Q Q' : Sh → MI → MR → Int → Prop} (h : CI G μ as S I R Q) (hq : ∀ S' I' R' x, Q S' I' R' x → Q' S' I' R' x) : CI G μ as S I R Q' :=
  E.mono h (fun _ _ _ _ ⟨x, hv, hx⟩ => ⟨x, hv, hq _ _ _ _ hx⟩)
theorem CR.mono {G : Gl} {μ : MB} {as : List PV} {S : Sh} {I : MI} {R : MR} {Q Q' : Sh → MI → MR → Nat → Prop} (h : CR G μ as S I R Q) (hq : ∀ S' I' R' x, Q S' I' R' x → Q' S' I' R' x) : CR G μ as S I R Q' :=
  E.mono h (fun _ _ _ _ ⟨x, hv, hx⟩ => ⟨x, hv, hq _ _ _ _ hx⟩)
theorem CV.mono {G : Gl} {μ : MB} {as : List PV} {S : Sh} {I : MI} {R : MR} {Q Q' : Sh → MI → MR → Prop} (h : CV G μ as S I R Q) (hq : ∀ S' I' R', Q S' I' R' → Q' S' I' R') : CV G μ as S I R Q' :=
  E.mono h (fun _ _ _ _ ⟨hv, hx⟩ => ⟨hv, hq _ _ _ hx⟩)
-- the law, walked: the class of the script and the start
abbrev R_law0 : String := RL
abbrev M_law : MB := (RL, yL_law, cL_law, 9, some .boolean, 13, 510)
def S0 : Sh := (1, 0, fun _ => 0, fun _ => 0)
def I0 : MI := fun _ _ => 0
def R0 : MR := fun _ _ => 0
end
section
-- ===== end of PART A; then your names; then what follows =====
/-! THE CLAIM OUT OF ONE WALK OF THE LAW'S BODY. Your part is whole_start (and what it stands on); all else here is the same for every law, but numbers. -/
def R_law : String := "StairsNearLaw"
def lw_P (b : Addr) (xs : List Int32) (args : Array Value) (s : State) : Prop := args = #[.ref b] ∧ s.IntsAt b xs ∧ xs.length ≤ 260 ∧ (Jvm.Cond.and given_1 narrow_1).before args s = true
def lw_Q (_ : Array Value) (s : State) (o : Outcome) (t : State) : Prop := o = .returned (some (.int 1)) ∧ Framed s o t [] 600000 7302250
def lw_Z (below : List Frame) (a : Array Value) (s : State) : State → Prop := fun t => ∃ o, t.status = .running ∧ Ended t below o ∧ lw_Q a s o t
/-- the law's own end, with 1 on the stack, nothing written that was there before, its room as the claim has it -/
theorem lw_ret {p : Program} {l : Launch} {e : Env} {s : State} {m : MethodId} {below : List Frame} {meth : Method} {c : Code} {b : Nat} (hx : p.tables.exec = Jvm.exec) (hb : c.code = code) (hr : meth.sig.returnType = ret) (hlocks : meth.locks = false) {pc : Nat} {H : Heap} {ls : Array Slot} (hdg : decode code pc = .ok (.ireturn, 1)) : W p l e room_1 s m #[Value.ref b] below meth c H [] 600000 7302250 (lw_Z below #[Value.ref b] s) (F0 m pc ls [.int 1]) := by
  intro T hT X
  obtain ⟨fs, hret, hrun, hended, hW, hframe⟩ := X.leave (v := some (.int 1)) (hlocks := hlocks) (fun h => by rw [hr] at h; cases h)
  have hmeth' : T.vm.method? m = some meth := X.method'
  refine ⟨T.setFrames fs, ?_, .returned (some (.int 1)), hrun, hended, rfl, ⟨_, rfl⟩, hW, hframe⟩
  jvm_step X.here [X.here.top, hx, hb, hdg, hmeth', hr, ret, narrow_b1]
  (try refine ⟨rfl, ?_⟩); (try refine ⟨rfl, ?_⟩)
  first | (intro acts; rw [hret _ acts rfl rfl rfl]) | rw [hret _ _ rfl rfl rfl]
  exact Steps.refl _
/-- what holds at the law's entry: the machine, the code, the tables' words (any of lw_tbl by 'hts w (by decide +kernel)'), the script of L ints xs at the cell b, what the Statement gives of the start (any of its parts by flat_of_before) -/
def lw_At (p : Program) (s : State) (m : MethodId) (meth : Method) (c : Code) (b L : Nat) (xs : Nat → Int32) : Prop :=
  p.tables.exec = Jvm.exec ∧ c.code = code ∧ meth.sig.returnType = ret ∧ c.maxLocals = 9 ∧ s.vm.findClass R_law = some m.cls ∧ (∀ w ∈ lw_tbl, w.before #[Value.ref b] s = true) ∧ va_X b L xs s s.heap ∧ b < s.heap.size ∧ meth.locks = false ∧ (Jvm.Cond.and given_1 narrow_1).before #[Value.ref b] s = true
theorem arr_ok {U : State} {args : Array Value} {ty : FieldType} (h : (Cond.arrayClass ty).before args U = true) (ho : ∀ C, ty ≠ .object C) : ∃ cA : ClassId, ArrOfT U cA ty ∧ va_RA U cA ty := by
  obtain ⟨c, k, comp, h1, h2, h3⟩ := Cond.arrayClass_spec h
  refine ⟨c, fun N z => ⟨(fun q hq => by cases hq), k, h2, comp, h3⟩, ?_⟩
  cases ty <;> first | exact h1 | exact absurd rfl (ho _)
theorem arr_okO {U : State} {args : Array Value} {C : String} (h : (Cond.arrayOver (.object C)).before args U = true) : ∃ cA : ClassId, ArrOfT U cA (.object C) ∧ va_RA U cA (.object C) := by
  obtain ⟨comp, c, k, h1, h2, h3, h4, h5⟩ := Cond.arrayOver_spec h
  exact ⟨c, fun N z => ⟨(fun q hq => by cases hq), k, h3, comp, h4⟩, k, comp, h3, h4, h1, h5⟩
theorem arr_okA {U : State} {args : Array Value} {t : FieldType} (h : (Cond.arrayOver (.array t)).before args U = true) : ∃ cA : ClassId, ArrOfT U cA (.array t) ∧ va_RA U cA (.array t) := by
  obtain ⟨comp, c, k, h1, h2, h3, h4, h5⟩ := arrayOverA_spec h
  exact ⟨c, fun N z => ⟨(fun q hq => by cases hq), k, h3, comp, h4⟩, h5⟩
def QL : PQ := fun S' _ _ v => v = vI 1 ∧ sN S' ≤ 600000 ∧ sU S' ≤ 7302250
theorem vk_S_congr {len : List Nat} {byt : List (List Int32)} {k1 v1 k2 v2 : Nat → Nat} {A : Nat → Prop} {U : State} {H : Heap} (h : vk_S 6 len byt k1 v1 A U H) (hk : ∀ i, i < 6 → k2 i = k1 i ∧ v2 i = v1 i) : vk_S 6 len byt k2 v2 A U H := by
  refine ⟨fun i hi => ?_, fun i j hi hj e => h.2 i j hi hj (by rw [← (hk i hi).1, ← (hk j hj).1]; exact e)⟩
  rw [(hk i hi).1, (hk i hi).2]
  exact h.1 i hi
def cF : List Cond := flatC (Jvm.Cond.and given_1 narrow_1)
def tmL (i : Nat) : Term := Term.string RL (litIx.getD i 0)
theorem lit_ex : ∀ i, i < 6 → Cond.exactly (tmL i) "java/lang/String" ∈ cF := by decide +kernel
theorem lit_co : ∀ i, i < 6 → Cond.eq (.field (tmL i) "java/lang/String" "coder" "B") (.int 0) ∈ cF := by decide +kernel
theorem lit_ar : ∀ i, i < 6 → Cond.arrayOf (.field (tmL i) "java/lang/String" "value" "[B") .byte ∈ cF := by decide +kernel
theorem lit_le : ∀ i, i < 6 → Cond.eq (.length (.field (tmL i) "java/lang/String" "value" "[B")) (.int (Int32.ofNat (litLen.getD i 0))) ∈ cF := by decide +kernel
theorem lit_el : ∀ i, i < 6 → ∀ j, j < litLen.getD i 0 → Cond.eq (.elem (.field (tmL i) "java/lang/String" "value" "[B") (.int (Int32.ofNat j))) (.int ((litByt.getD i []).getD j 0)) ∈ cF := by decide +kernel
theorem lit_ne : ∀ i, i < 6 → ∀ j, j < 6 → i ≠ j → Cond.not (Cond.eq (tmL i) (tmL j)) ∈ cF ∨ Cond.not (Cond.eq (tmL j) (tmL i)) ∈ cF := by decide +kernel
theorem lit_rf : ∀ i, i < 6 → Cond.stringRef RL (litIx.getD i 0) (litTx.getD i "") ∈ lw_tbl := by decide +kernel
theorem digOnes_ar : Cond.arrayOf (.static "java/lang/Integer" "DigitOnes" "[B") .byte ∈ cF := by decide +kernel
theorem digOnes_le : Cond.eq (.length (.static "java/lang/Integer" "DigitOnes" "[B")) (.int 100) ∈ cF := by decide +kernel
theorem digOnes_el : ∀ j, j < 100 → Cond.eq (.elem (.static "java/lang/Integer" "DigitOnes" "[B") (.int (Int32.ofNat j))) (.int (Int32.ofNat (48 + j % 10))) ∈ cF := by decide +kernel
theorem compact_eq : Cond.eq (.static "java/lang/String" "COMPACT_STRINGS" "Z") (.int 1) ∈ cF := by decide +kernel
theorem former_is : Cond.isRef (.static "jdk/internal/util/Preconditions" "SIOOBE_FORMATTER" "Ljava/util/function/BiFunction;") ∈ cF := by decide +kernel
theorem whole_of_E (hE : ∀ G : Gl, gL G ≤ 260 → E G M_law 0 (lsArgs 0 [vS]) [] S0 I0 R0 QL) {p : Program} {e : Env} {s : State} {m : MethodId} {below : List Frame} {meth : Method} {c : Code} (l : Launch) (hflags : l.flags = flags0) {b L : Nat} {xs : Nat → Int32} (hL : L ≤ 260) (C0 : lw_At p s m meth c b L xs) : W p l e room_1 s m #[Value.ref b] below meth c s.heap [] 0 0 (lw_Z below #[Value.ref b] s) (entryFrame m ([Value.ref b] : List Value).toArray 9) := by
  obtain ⟨hx, hb, hr, hml, hown, hts, hX, hbl, hlocks, hgv⟩ := id C0
  have kn : ∀ ci, ci < 11 → ∃ (cC : ClassId) (iS : Nat → Nat), u_Kn s (clC ci) (clT ci) (clN ci) cC iS := fun ci hci => u_known (n := clN ci) hts (fun w hw => (List.mem_filter.mp ((clOK_all ci hci).2.1 w hw)).1) (hts (.instantiable (clC ci) (clN ci)) (by
    have : ∀ ci, ci < 11 → Cond.instantiable (clC ci) (clN ci) ∈ lw_tbl := by decide +kernel
    exact this ci hci))
  obtain ⟨dC, hdC⟩ : ∃ dC : Nat → ClassId, ∀ ci, ci < 11 → ∃ iS : Nat → Nat, u_Kn s (clC ci) (clT ci) (clN ci) (dC ci) iS :=
    ⟨fun ci => if h : ci < 11 then Classical.choose (kn ci h) else 0, fun ci h => by simp only [h, dif_pos]; exact Classical.choose_spec (kn ci h)⟩
  obtain ⟨dI, hdI⟩ : ∃ dI : Nat → Nat → Nat, ∀ ci, ci < 11 → u_Kn s (clC ci) (clT ci) (clN ci) (dC ci) (dI ci) :=
    ⟨fun ci => if h : ci < 11 then Classical.choose (hdC ci h) else fun _ => 0, fun ci h => by simp only [h, dif_pos]; exact Classical.choose_spec (hdC ci h)⟩
  obtain ⟨a0, ha0⟩ := arr_ok (hts (.arrayClass .int) (by decide +kernel)) (fun _ h => by cases h)
  obtain ⟨a1, ha1⟩ := arr_ok (hts (.arrayClass .byte) (by decide +kernel)) (fun _ h => by cases h)
  have w3 := hts (.arrayOver (.object RX5)) (by decide +kernel)
  have w4 := hts (.arrayOver (.object RX1)) (by decide +kernel)
  have w5 := hts (.arrayOver (.object RX2)) (by decide +kernel)
  have w6 := hts (.arrayOver (.array .int)) (by decide +kernel)
  obtain ⟨a3, ha3⟩ := arr_okO w3
  obtain ⟨a4, ha4⟩ := arr_okO w4
  obtain ⟨a5, ha5⟩ := arr_okO w5
  obtain ⟨a6, ha6⟩ := arr_okA w6
  have hK : va_K (dC, dI) vwCl [(a0, .int), (a1, .byte), (a0, .int), (a3, .object RX5), (a4, .object RX1), (a5, .object RX2), (a6, .array .int)] s := by
    refine ⟨fun k q hq => ?_, fun k q hq => ?_⟩
    · have hk : k < 11 := (List.getElem?_eq_some_iff.mp hq).1
      have h1 := (clOK_all k hk).1
      rw [hq] at h1
      cases Option.some.inj h1
      exact hdI k hk
    · match k, hq with
      | 0, hq => cases hq; exact ha0
      | 1, hq => cases hq; exact ha1
      | 2, hq => cases hq; exact ha0
      | 3, hq => cases hq; exact ha3
      | 4, hq => cases hq; exact ha4
      | 5, hq => cases hq; exact ha5
      | 6, hq => cases hq; exact ha6
      | k + 7, hq => simp at hq
  have hfl := flat_of_before _ hgv
  have hAo : ∀ a : Nat, a < s.heap.size → ¬ s.heap.size ≤ a := fun a h1 h2 => by omega
  obtain ⟨adK, adV, hvS, hvE⟩ := vk_Sof (args := #[Value.ref b]) (s := s) (N := 6) (tm := tmL) (len := litLen) (byt := litByt) (A := fun q => s.heap.size ≤ q) (by decide +kernel) (fun i hi => hfl _ (lit_ex i hi)) (fun i hi => hfl _ (lit_co i hi)) (fun i hi => hfl _ (lit_ar i hi)) (fun i hi => hfl _ (lit_le i hi)) (fun i hi j hj => hfl _ (lit_el i hi j hj)) (fun i j hi hj hij => (lit_ne i hi j hj hij).imp (hfl _) (hfl _)) hAo
  have hvC : va_Z "java/lang/String" "COMPACT_STRINGS" "Z" (.int 1) (fun q => s.heap.size ≤ q) s s.heap := va_Zof (hts _ (by decide +kernel)) (hts _ (by decide +kernel)) (va_eqi (hfl _ compact_eq)) hAo
  obtain ⟨tF, htF⟩ : ∃ o : Option Nat, va_Z "jdk/internal/util/Preconditions" "SIOOBE_FORMATTER" "Ljava/util/function/BiFunction;" (va_rf o) (fun q => s.heap.size ≤ q) s s.heap := by
    obtain ⟨v, hv, hr⟩ := Cond.isRef_spec (hfl _ former_is)
    have hz := va_Zof (A := fun q => s.heap.size ≤ q) (v := v) (hts (.laysStatic "jdk/internal/util/Preconditions" "SIOOBE_FORMATTER" "Ljava/util/function/BiFunction;") (by decide +kernel)) (hts (.initialized "jdk/internal/util/Preconditions") (by decide +kernel)) hv hAo
    cases v with
    | null => exact ⟨none, hz⟩
    | ref a => exact ⟨some a, hz⟩
    | _ => cases hr
  obtain ⟨tD, htD, hTD⟩ := va_Tof (args := #[Value.ref b]) (s := s) (tm := .static "java/lang/Integer" "DigitOnes" "[B") (ty := .byte) (N := 100) (f := fun j => .int (Int32.ofNat (48 + j % 10))) (A := fun q => s.heap.size ≤ q) (by decide +kernel) (hfl _ digOnes_ar) (va_eqt (hfl _ digOnes_le)) (fun j hj => va_eqt (hfl _ (digOnes_el j hj))) hAo
  have hZD : va_Z "java/lang/Integer" "DigitOnes" "[B" (.ref tD) (fun q => s.heap.size ≤ q) s s.heap := va_Zof (hts (.laysStatic "java/lang/Integer" "DigitOnes" "[B") (by decide +kernel)) (hts (.initialized "java/lang/Integer") (by decide +kernel)) htD hAo
  obtain ⟨gAf, hgA⟩ : ∃ f : Nat → Option Nat, f = fun k => if k < 6 then some (adK k) else if k < 12 then some (adV (k - 6)) else if k = 12 then tF else some tD := ⟨_, rfl⟩
  generalize hG : ((s.heap.size, b, L, xs, (dC, dI), [(a0, .int), (a1, .byte), (a0, .int), (a3, .object RX5), (a4, .object RX1), (a5, .object RX2), (a6, .array .int)], gAf) : Gl) = G
  have gB1 : gB G = s.heap.size := by rw [← hG]; rfl
  have gb1 : gb G = b := by rw [← hG]; rfl
  have gL1 : gL G = L := by rw [← hG]; rfl
  have gX1 : gX G = xs := by rw [← hG]; rfl
  have gK1 : va_K (gD G) vwCl (gT G) s := by rw [← hG]; exact hK
  have gT1 : (gT G).map Prod.snd = atyL := by rw [← hG]; rfl
  have o1 : okS S0 := ⟨Nat.le_refl _, fun a ha => absurd rfl ha⟩
  have o2 : okI S0 I0 := fun a j => irng0 _
  obtain ⟨S', I', R', v, ⟨rfl, hN, hU⟩, p1, p2, p3, hrun⟩ := hE G (by rw [gL1]; exact hL) o1 o2 (lok_args 0 [vS] (fun _ _ => by simp_all [vok])) (fun _ h => by cases h)
  have hl := lv_entry ([Value.ref b] : List Value) (n := 9) (Nat.le_of_ble_eq_true rfl)
  rw [lg_entry_eq]
  have gO1 : ∀ k, gO G (k + 1) = gAf k := by intro k; rw [← hG]; rfl
  have hEx : ExW G s s.heap := by
    refine ⟨⟨fun w hw => ?_, w3, w4, w5, w6, va_Nw.of rfl (hts (.castable "[B" "java/lang/Cloneable") (by decide +kernel))⟩, ?_⟩
    rotate_left
    · unfold va_Old
      rw [gB1]
      refine ⟨vk_S_congr hvS (fun i hi => ?_), fun i hi => ?_, hvC, ?_, ?_, ?_, fun k hk hk2 => ?_⟩
      · refine ⟨?_, ?_⟩
        · unfold gA
          rw [gO1, hgA]
          simp only [if_pos hi, Option.getD_some]
        · unfold gA
          rw [show i + 7 = (i + 6) + 1 by omega, gO1, hgA]
          simp only [if_neg (show ¬ i + 6 < 6 by omega), if_pos (show i + 6 < 12 by omega), Option.getD_some, Nat.add_sub_cancel]
      · have e9 : gA G (i + 1) = adK i := by
          unfold gA
          rw [gO1, hgA]
          simp only [if_pos hi, Option.getD_some]
        rw [e9]
        exact vk_R.of (hts _ (lit_rf i hi)) (hvE i hi)
      · have e9 : mv G (vO 13) = va_rf tF := by
          show va_rf (gO G (12 + 1)) = _
          rw [gO1, hgA]
          rfl
        rw [e9]
        exact htF
      · have e9 : gA G 14 = tD := by
          show (gO G (13 + 1)).getD 0 = tD
          rw [gO1, hgA]
          rfl
        rw [e9]
        exact hZD
      · have e9 : gA G 14 = tD := by
          show (gO G (13 + 1)).getD 0 = tD
          rw [gO1, hgA]
          rfl
        rw [e9]
        exact hTD
      · rw [gO1, hgA]
        simp only []
        by_cases h1 : k < 6
        · exact ⟨_, if_pos h1⟩
        · rw [if_neg h1]
          by_cases h2 : k < 12
          · exact ⟨_, if_pos h2⟩
          · rw [if_neg h2, if_neg hk2]
            exact ⟨_, rfl⟩
    have h1 := List.mem_filter.mp hw
    have h2 := hts w h1.1
    have h3 := h1.2
    cases w with
    | methodLinkNest a i x hh => exact va_Nw.of rfl h2
    | _ => cases h3
  have hmls : lv_args 0 [Value.ref b] = mls G (lsArgs 0 [vS]) := by
    show [(0, Value.ref b)] = [(0, Value.ref (gb G))]
    rw [gb1]
  rw [hmls] at hl
  have hn1 : sN S0 = 1 := rfl
  have hu1 : sU S0 = 0 := rfl
  refine hrun.2.2 p l e room_1 s m #[Value.ref b] below meth c s.heap [] 0 0 _ _ ⟨hx, hb, hml, hown, fun w hw => hts w (List.mem_filter.mp hw).1, hr, hlocks, fun h => absurd h (by decide), gK1, gT1, by decide, by decide, by rw [gB1]; exact Nat.le_refl _, by rw [gb1, gB1]; exact hbl, by rw [gb1, gL1, gX1]; exact hX, by rw [gL1]; exact hL, hEx⟩ (by rw [hn1]; show _ ≤ 600000; omega) (by rw [hu1]; show _ ≤ 7302250; omega) ⟨hl, ⟨fun k q h => ?_, by rw [gB1]; rfl⟩, va_S.rf⟩ ?_
  · have : (wsOf G S0 I0 R0)[k]? = none := List.getElem?_eq_none (by rw [wsOf_len]; exact Nat.zero_le _)
    rw [this] at h
    cases h
  · intro Hm' locs' pc' ls' hM' hS' hret
    refine va_forget (fun q hq => by have := hS'.2.2 q hq; rw [gB1] at this; exact this) ?_
    refine W.widen (k := 600000) (n := 7302250) (by rw [hn1]; omega) (by rw [hu1]; omega) ?_
    rcases hret with ⟨x, hx1, hd, -⟩ | ⟨r, hx1, -⟩ | ⟨hx1, -⟩
    · cases hx1
      exact lw_ret hx hb hr hlocks hd
    · cases hx1
    · cases hx1
end
section
/-! ===== calls with their answers' types ===== -/
theorem bpos {c : Prop} [Decidable c] {A B : Prop} (hc : c) (h : if c then A else B) : A := by rwa [if_pos hc] at h
theorem bneg {c : Prop} [Decidable c] {A B : Prop} (hc : ¬ c) (h : if c then A else B) : B := by rwa [if_neg hc] at h
section WR
variable {G : Gl} {μ μ' : MB} {pc : Nat} {ls : Lc} {st stk as : List PV} {S : Sh} {I : MI} {R : MR} {Q : PQ} {idx ci n r : Nat} {host : String}
theorem i_VI (hs : (vR r :: as).reverse ++ st = stk) (hd : decode (mC μ) pc = .ok (.invokevirtual idx, 3)) (hok : mOK μ' n) (hw : Cond.methodLink (mO μ) idx (mY μ') ∈ lw_t2 ∧ Cond.instanceMethod (mY μ') ∈ lw_t2 ∧ Cond.selects (mY μ').cls (mY μ') (mY μ') ∈ lw_t2) (hk : mK μ' < mK μ ∧ mL μ' + mW μ' + 19 ≤ mW μ) (hlen : ((vR r :: as).map pcat).sum ≤ mL μ') (hn : as.length = n) (hst : (st.map pcat).sum ≤ 8) (hci : ci < 11 ∧ clC ci = (mY μ').cls) (ht : sT S r = ci + 1)
    (k : CI G μ' (vR r :: as) S I R (fun S' I' R' x => E G μ (pc + 3) ls (vI x :: st) S' I' R' Q)) : E G μ pc ls stk S I R Q := by
  subst hs
  exact e_invV hd hok hw hk hlen hn hst hci ht k (fun S' I' R' v ⟨x, hv, hx⟩ => by subst hv; exact hx)
theorem i_VV (hs : (vR r :: as).reverse ++ st = stk) (hd : decode (mC μ) pc = .ok (.invokevirtual idx, 3)) (hok : mOK μ' n) (hw : Cond.methodLink (mO μ) idx (mY μ') ∈ lw_t2 ∧ Cond.instanceMethod (mY μ') ∈ lw_t2 ∧ Cond.selects (mY μ').cls (mY μ') (mY μ') ∈ lw_t2) (hk : mK μ' < mK μ ∧ mL μ' + mW μ' + 19 ≤ mW μ) (hlen : ((vR r :: as).map pcat).sum ≤ mL μ') (hn : as.length = n) (hst : (st.map pcat).sum ≤ 8) (hci : ci < 11 ∧ clC ci = (mY μ').cls) (ht : sT S r = ci + 1)
    (k : CV G μ' (vR r :: as) S I R (fun S' I' R' => E G μ (pc + 3) ls st S' I' R' Q)) : E G μ pc ls stk S I R Q := by
  subst hs
  exact e_invV hd hok hw hk hlen hn hst hci ht k (fun S' I' R' v ⟨hv, hx⟩ => by subst hv; exact hx)
theorem i_VR (hs : (vR r :: as).reverse ++ st = stk) (hd : decode (mC μ) pc = .ok (.invokevirtual idx, 3)) (hok : mOK μ' n) (hw : Cond.methodLink (mO μ) idx (mY μ') ∈ lw_t2 ∧ Cond.instanceMethod (mY μ') ∈ lw_t2 ∧ Cond.selects (mY μ').cls (mY μ') (mY μ') ∈ lw_t2) (hk : mK μ' < mK μ ∧ mL μ' + mW μ' + 19 ≤ mW μ) (hlen : ((vR r :: as).map pcat).sum ≤ mL μ') (hn : as.length = n) (hst : (st.map pcat).sum ≤ 8) (hci : ci < 11 ∧ clC ci = (mY μ').cls) (ht : sT S r = ci + 1)
    (k : CR G μ' (vR r :: as) S I R (fun S' I' R' x => E G μ (pc + 3) ls (vR x :: st) S' I' R' Q)) : E G μ pc ls stk S I R Q := by
  subst hs
  exact e_invV hd hok hw hk hlen hn hst hci ht k (fun S' I' R' v ⟨x, hv, hx⟩ => by subst hv; exact hx)
theorem i_SI (hs : as.reverse ++ st = stk) (hd : decode (mC μ) pc = .ok (.invokestatic idx, 3)) (hok : mOK μ' n) (hw : Cond.methodLink (mO μ) idx (mY μ') ∈ lw_t2 ∧ Cond.static (mY μ') ∈ lw_t2) (hk : mK μ' < mK μ ∧ mL μ' + mW μ' + 19 ≤ mW μ) (hlen : (as.map pcat).sum ≤ mL μ') (hn : as.length = n) (hst : (st.map pcat).sum ≤ 8)
    (k : CI G μ' as S I R (fun S' I' R' x => E G μ (pc + 3) ls (vI x :: st) S' I' R' Q)) : E G μ pc ls stk S I R Q := by
  subst hs
  exact e_invS hd hok hw hk hlen hn hst k (fun S' I' R' v ⟨x, hv, hx⟩ => by subst hv; exact hx)
theorem i_SR (hs : as.reverse ++ st = stk) (hd : decode (mC μ) pc = .ok (.invokestatic idx, 3)) (hok : mOK μ' n) (hw : Cond.methodLink (mO μ) idx (mY μ') ∈ lw_t2 ∧ Cond.static (mY μ') ∈ lw_t2) (hk : mK μ' < mK μ ∧ mL μ' + mW μ' + 19 ≤ mW μ) (hlen : (as.map pcat).sum ≤ mL μ') (hn : as.length = n) (hst : (st.map pcat).sum ≤ 8)
    (k : CR G μ' as S I R (fun S' I' R' x => E G μ (pc + 3) ls (vR x :: st) S' I' R' Q)) : E G μ pc ls stk S I R Q := by
  subst hs
  exact e_invS hd hok hw hk hlen hn hst k (fun S' I' R' v ⟨x, hv, hx⟩ => by subst hv; exact hx)
theorem i_SV (hs : as.reverse ++ st = stk) (hd : decode (mC μ) pc = .ok (.invokestatic idx, 3)) (hok : mOK μ' n) (hw : Cond.methodLink (mO μ) idx (mY μ') ∈ lw_t2 ∧ Cond.static (mY μ') ∈ lw_t2) (hk : mK μ' < mK μ ∧ mL μ' + mW μ' + 19 ≤ mW μ) (hlen : (as.map pcat).sum ≤ mL μ') (hn : as.length = n) (hst : (st.map pcat).sum ≤ 8)
    (k : CV G μ' as S I R (fun S' I' R' => E G μ (pc + 3) ls st S' I' R' Q)) : E G μ pc ls stk S I R Q := by
  subst hs
  exact e_invS hd hok hw hk hlen hn hst k (fun S' I' R' v ⟨hv, hx⟩ => by subst hv; exact hx)
theorem i_SNR (hs : as.reverse ++ st = stk) (hd : decode (mC μ) pc = .ok (.invokestatic idx, 3)) (hok : mOK μ' n) (hw : Cond.methodLinkNest (mO μ) idx (mY μ') host ∈ lw_n ∧ Cond.static (mY μ') ∈ lw_t2) (hk : mK μ' < mK μ ∧ mL μ' + mW μ' + 19 ≤ mW μ) (hlen : (as.map pcat).sum ≤ mL μ') (hn : as.length = n) (hst : (st.map pcat).sum ≤ 8)
    (k : CR G μ' as S I R (fun S' I' R' x => E G μ (pc + 3) ls (vR x :: st) S' I' R' Q)) : E G μ pc ls stk S I R Q := by
  subst hs
  exact e_invSN hd hok hw hk hlen hn hst k (fun S' I' R' v ⟨x, hv, hx⟩ => by subst hv; exact hx)
theorem i_IV (hs : (vR r :: as).reverse ++ st = stk) (hd : decode (mC μ) pc = .ok (.invokespecial idx, 3)) (hok : mOK μ' n) (hw : Cond.methodLink (mO μ) idx (mY μ') ∈ lw_t2 ∧ Cond.instanceMethod (mY μ') ∈ lw_t2) (hin : (mY μ').name = "<init>" ∧ mR μ' = none) (hk : mK μ' < mK μ ∧ mL μ' + mW μ' + 19 ≤ mW μ) (hlen : ((vR r :: as).map pcat).sum ≤ mL μ') (hn : as.length = n) (hst : (st.map pcat).sum ≤ 8) (hr : sT S r ≠ 0)
    (k : CV G μ' (vR r :: as) S I R (fun S' I' R' => E G μ (pc + 3) ls st S' I' R' Q)) : E G μ pc ls stk S I R Q := by
  subst hs
  exact e_invI hd hok hw hin hk hlen hn hst hr k (fun S' I' R' v ⟨hv, hx⟩ => by subst hv; exact hx)
theorem i_INV (hs : (vR r :: as).reverse ++ st = stk) (hd : decode (mC μ) pc = .ok (.invokespecial idx, 3)) (hok : mOK μ' n) (hw : Cond.methodLinkNest (mO μ) idx (mY μ') host ∈ lw_n ∧ Cond.instanceMethod (mY μ') ∈ lw_t2) (hin : (mY μ').name = "<init>" ∧ mR μ' = none) (hk : mK μ' < mK μ ∧ mL μ' + mW μ' + 19 ≤ mW μ) (hlen : ((vR r :: as).map pcat).sum ≤ mL μ') (hn : as.length = n) (hst : (st.map pcat).sum ≤ 8) (hr : sT S r ≠ 0)
    (k : CV G μ' (vR r :: as) S I R (fun S' I' R' => E G μ (pc + 3) ls st S' I' R' Q)) : E G μ pc ls stk S I R Q := by
  subst hs
  exact e_invIN hd hok hw hin hk hlen hn hst hr k (fun S' I' R' v ⟨hv, hx⟩ => by subst hv; exact hx)
end WR
section EQ
variable {G : Gl} {μ : MB} {pc : Nat} {ls : Lc} {st : List PV} {S S2 : Sh} {I I2 : MI} {R R2 : MR} {Q : PQ}
theorem eqS (e : S2 = S) (k : E G μ pc ls st S2 I R Q) : E G μ pc ls st S I R Q := by subst e; exact k
theorem eqI (e : I2 = I) (k : E G μ pc ls st S I2 R Q) : E G μ pc ls st S I R Q := by subst e; exact k
theorem eqR (e : R2 = R) (k : E G μ pc ls st S I R2 Q) : E G μ pc ls st S I R Q := by subst e; exact k
theorem e_slenX (hd : decode (mC μ) pc = .ok (.arraylength, 1)) (hL : gL G ≤ 260) (k : E G μ (pc + 1) ls (vI (gL G : Int) :: st) S I R Q) : E G μ pc ls (vS :: st) S I R Q := e_slen hd k hL
end EQ
section MM
variable {G : Gl} {μ : MB} {pc idx : Nat} {ls : Lc} {st : List PV} {S : Sh} {I : MI} {R : MR} {Q : PQ} {x y : Int}
theorem e_mmax (hd : decode (mC μ) pc = .ok (.invokestatic idx, 3)) (hw : Cond.methodLink (mO μ) idx Lib.Math.max.name ∈ lw_t2) (hq : Cond.static Lib.Math.max.name ∈ lw_t2 ∧ Cond.initialized "java/lang/Math" ∈ lw_t2 ∧ Cond.code Lib.Math.max.name Lib.Math.max.code 2 (some .int) ∈ lw_t2) (hk : 1 ≤ mK μ ∧ 40 ≤ mW μ) (hst : (st.map pcat).sum ≤ 8)
    (k : E G μ (pc + 3) ls (vI (max x y) :: st) S I R Q) : E G μ pc ls (vI y :: vI x :: st) S I R Q := by
  refine e_step (Nat.le_refl _) (Nat.le_refl _) (fun a b c o => ⟨a, b, c, vok_cons (v := vI _) (by have h1 : InR y := vok_hd o; have h2 : InR x := vok_hd (vok_tl o); show InR _; unfold InR at h1 h2 ⊢; omega) (vok_tl (vok_tl o))⟩) ?_ k
  intro p l e Rm s m args below meth c Hm locs cells slots lsM Z o1 o2 o3 o4 hC hc hs hF kk
  have hts := hC.2.2.2.2.1
  have hfr := hC.2.2.2.2.2.2.2.2.2.2.1
  have hlo := hC.2.2.2.2.2.2.2.2.2.2.2.1
  have h1 : InR y := vok_hd o4
  have h2 : InR x := vok_hd (vok_tl o4)
  have hcs := cat_sum G hst
  refine va_mmax hC.1 hC.2.1 (by rw [hC.2.2.1]; exact hF.1.1.symm) hC.2.2.2.1 (hts _ hw) (hts _ hq.1) (hts _ hq.2.1) (hts _ hq.2.2) (by omega) (by omega) (by omega) (by omega) hd ?_
  have := kk Hm locs lsM hF
  simp only [Nat.sub_self, Nat.add_zero] at this
  have e : (if Int32.ofInt x < Int32.ofInt y then Int32.ofInt y else Int32.ofInt x) = Int32.ofInt (max x y) := by
    by_cases h : x < y
    · rw [if_pos ((i_lt h2 h1).mpr h), show max x y = y by omega]
    · rw [if_neg (fun q => h ((i_lt h2 h1).mp q)), show max x y = x by omega]
  rw [e]
  exact this
theorem e_mmin (hd : decode (mC μ) pc = .ok (.invokestatic idx, 3)) (hw : Cond.methodLink (mO μ) idx Lib.Math.min.name ∈ lw_t2) (hq : Cond.static Lib.Math.min.name ∈ lw_t2 ∧ Cond.initialized "java/lang/Math" ∈ lw_t2 ∧ Cond.code Lib.Math.min.name Lib.Math.min.code 2 (some .int) ∈ lw_t2) (hk : 1 ≤ mK μ ∧ 40 ≤ mW μ) (hst : (st.map pcat).sum ≤ 8)
    (k : E G μ (pc + 3) ls (vI (min x y) :: st) S I R Q) : E G μ pc ls (vI y :: vI x :: st) S I R Q := by
  refine e_step (Nat.le_refl _) (Nat.le_refl _) (fun a b c o => ⟨a, b, c, vok_cons (v := vI _) (by have h1 : InR y := vok_hd o; have h2 : InR x := vok_hd (vok_tl o); show InR _; unfold InR at h1 h2 ⊢; omega) (vok_tl (vok_tl o))⟩) ?_ k
  intro p l e Rm s m args below meth c Hm locs cells slots lsM Z o1 o2 o3 o4 hC hc hs hF kk
  have hts := hC.2.2.2.2.1
  have hfr := hC.2.2.2.2.2.2.2.2.2.2.1
  have hlo := hC.2.2.2.2.2.2.2.2.2.2.2.1
  have h1 : InR y := vok_hd o4
  have h2 : InR x := vok_hd (vok_tl o4)
  have hcs := cat_sum G hst
  refine va_mmin hC.1 hC.2.1 (by rw [hC.2.2.1]; exact hF.1.1.symm) hC.2.2.2.1 (hts _ hw) (hts _ hq.1) (hts _ hq.2.1) (hts _ hq.2.2) (by omega) (by omega) (by omega) (by omega) hd ?_
  have := kk Hm locs lsM hF
  simp only [Nat.sub_self, Nat.add_zero] at this
  have e : (if Int32.ofInt y < Int32.ofInt x then Int32.ofInt y else Int32.ofInt x) = Int32.ofInt (min x y) := by
    by_cases h : y < x
    · rw [if_pos ((i_lt h1 h2).mpr h), show min x y = y by omega]
    · rw [if_neg (fun q => h ((i_lt h1 h2).mp q)), show min x y = x by omega]
  first | (rw [e]; exact this) | (rw [← e] at this; exact this)
end MM
end
section
/-! ===== THE WALK: texts, what was there before, methods of a class above ===== -/
def i2c (x : Int) : Int := ((Int32.ofInt x).toUInt32 % 65536).toInt32.toInt
theorem mv_lit {G : Gl} {U : State} {H : Heap} (h : va_Old G U H) {k : Nat} (hk : k < 14) (h2 : k ≠ 12) : mv G (vO (k + 1)) = .ref (gA G (k + 1)) := by
  obtain ⟨a, ha⟩ := h.2.2.2.2.2.2 k hk h2
  show va_rf (gO G (k + 1)) = .ref ((gO G (k + 1)).getD 0)
  rw [ha]
  rfl
theorem cx_old {G : Gl} {μ : MB} {p : Program} {Rm : Room} {s : State} {m : MethodId} {args : Array Value} {meth : Method} {c : Code} (hC : Cx G μ p Rm s m args meth c) : va_Old G s s.heap := hC.2.2.2.2.2.2.2.2.2.2.2.2.2.2.2.2.2
section TX
variable {G : Gl} {μ μ' : MB} {pc pc2 : Nat} {ls ls2 : Lc} {st st2 as : List PV} {S S2 : Sh} {I I2 : MI} {R R2 : MR} {Q Q' : PQ} {idx ci f a n : Nat} {i x y : Int}
theorem e_i2c (hd : decode (mC μ) pc = .ok (.i2c, 1)) (k : E G μ (pc + 1) ls (vI (i2c x) :: st) S I R Q) : E G μ pc ls (vI x :: st) S I R Q :=
  e_go (fun _ _ h => vok_cons (v := vI _) (InR_toInt _) (vok_tl h)) (fun p l e Rm s m args below meth c Hm locs cells slots lsM Z _ _ _ o4 hC hx hb hF kk => lv_i2c (x := Int32.ofInt x) (v := Int32.ofInt (i2c x)) hx hb hd (Int32.ofInt_toInt _).symm kk) k
theorem e_ldcw {index : Nat} (hd : decode (mC μ) pc = .ok (.ldc_w index, 3)) (hw : Jvm.Cond.constant (mO μ) index (Int32.ofInt x) ∈ lw_t2) (hn : InR x) (k : E G μ (pc + 3) ls (vI x :: st) S I R Q) : E G μ pc ls st S I R Q :=
  e_go (fun _ _ h => vok_cons (v := vI _) hn h) (fun p l e Rm s m args below meth c Hm locs cells slots lsM Z _ _ _ _ hC hx hb hF kk => lv_ldcw hx hb hC.2.2.2.1 (hC.2.2.2.2.1 _ hw) hd kk) k
theorem e_dup_x1 {v w : PV} (hd : decode (mC μ) pc = .ok (.dup_x1, 1)) (hv : pcat v = 1) (hw : pcat w = 1) (k : E G μ (pc + 1) ls (v :: w :: v :: st) S I R Q) : E G μ pc ls (v :: w :: st) S I R Q :=
  e_go (fun _ _ h => vok_cons (vok_hd h) (vok_cons (vok_hd (vok_tl h)) (vok_cons (vok_hd h) (vok_tl (vok_tl h))))) (fun p l e Rm s m args below meth c Hm locs cells slots lsM Z _ _ _ _ hC hx hb hF kk => lv_dup_x1 hx hb hd ((mv_cat G v).trans hv) ((mv_cat G w).trans hw) kk) k
theorem e_ldcS {j : Nat} (hj : j < 6) (ho : mO μ = RL) (hd : decode (mC μ) pc = .ok (.ldc (litIx.getD j 0), 2)) (k : E G μ (pc + 2) ls (vO (j + 1) :: st) S I R Q) : E G μ pc ls st S I R Q := by
  refine e_go (fun _ _ h => vok_cons (v := vO (j + 1)) trivial h) (fun p l e Rm s m args below meth c Hm locs cells slots lsM Z _ _ _ _ hC hx hb hF kk => ?_) k
  rw [List.map_cons, mv_lit (cx_old hC) (show j < 14 by omega) (by omega)] at kk
  exact va_ldcS hx hb (by rw [← ho]; exact hC.2.2.2.1) ((cx_old hC).2.1 j hj) hd kk
theorem e_getsC (hd : decode (mC μ) pc = .ok (.getstatic idx, 3)) (hw : Cond.fieldLink (mO μ) idx "java/lang/String" "COMPACT_STRINGS" "Z" ∈ lw_t2) (k : E G μ (pc + 3) ls (vI 1 :: st) S I R Q) : E G μ pc ls st S I R Q :=
  e_go (fun _ _ h => vok_cons (v := vI 1) (by show InR 1; unfold InR; omega) h) (fun p l e Rm s m args below meth c Hm locs cells slots lsM Z _ _ _ _ hC hx hb hF kk => va_gets hx hb (cx_old hC).2.2.1 hF.2.2 hC.2.2.2.1 (hC.2.2.2.2.1 _ hw) (fun _ h => h) hd kk) k
theorem e_getsF (hd : decode (mC μ) pc = .ok (.getstatic idx, 3)) (hw : Cond.fieldLink (mO μ) idx "jdk/internal/util/Preconditions" "SIOOBE_FORMATTER" "Ljava/util/function/BiFunction;" ∈ lw_t2) (k : E G μ (pc + 3) ls (vO 13 :: st) S I R Q) : E G μ pc ls st S I R Q :=
  e_go (fun _ _ h => vok_cons (v := vO 13) trivial h) (fun p l e Rm s m args below meth c Hm locs cells slots lsM Z _ _ _ _ hC hx hb hF kk => va_gets hx hb (cx_old hC).2.2.2.1 hF.2.2 hC.2.2.2.1 (hC.2.2.2.2.1 _ hw) (fun _ h => h) hd kk) k
theorem e_getsD (hd : decode (mC μ) pc = .ok (.getstatic idx, 3)) (hw : Cond.fieldLink (mO μ) idx "java/lang/Integer" "DigitOnes" "[B" ∈ lw_t2) (k : E G μ (pc + 3) ls (vO 14 :: st) S I R Q) : E G μ pc ls st S I R Q := by
  refine e_go (fun _ _ h => vok_cons (v := vO 14) trivial h) (fun p l e Rm s m args below meth c Hm locs cells slots lsM Z _ _ _ _ hC hx hb hF kk => ?_) k
  rw [List.map_cons, mv_lit (cx_old hC) (show 13 < 14 by omega) (by omega)] at kk
  exact va_gets hx hb (cx_old hC).2.2.2.2.1 hF.2.2 hC.2.2.2.1 (hC.2.2.2.2.1 _ hw) (fun _ h => h) hd kk
theorem e_baldD (hd : decode (mC μ) pc = .ok (.baload, 1)) (hi : 0 ≤ i ∧ i < 100) (k : E G μ (pc + 1) ls (vI (48 + i % 10) :: st) S I R Q) : E G μ pc ls (vI i :: vO 14 :: st) S I R Q := by
  refine e_go (fun _ _ h => vok_cons (v := vI _) (by show InR _; unfold InR; omega) (vok_tl (vok_tl h))) (fun p l e Rm s m args below meth c Hm locs cells slots lsM Z _ _ _ o4 hC hx hb hF kk => ?_) k
  have hi2 : InR i := vok_hd o4
  rw [List.map_cons, List.map_cons, mv_lit (cx_old hC) (show 13 < 14 by omega) (by omega)]
  refine va_tb hx hb (cx_old hC).2.2.2.2.2.1 hF.2.2 (i := Int32.ofInt i) (in_of (n := 100) hi2 hi) (v := .int (Int32.ofInt (48 + i % 10))) ?_ hd kk
  rw [cl_of hi2]
  show Value.int (Int32.ofInt ((48 + i.toNat % 10 : Nat) : Int)) = _
  congr 2
  omega
theorem e_getLc {j : Nat} (hj : j < 6) (hd : decode (mC μ) pc = .ok (.getfield idx, 3)) (hw : Cond.fieldLink (mO μ) idx "java/lang/String" "coder" "B" ∈ lw_t2) (k : E G μ (pc + 3) ls (vI 0 :: st) S I R Q) : E G μ pc ls (vO (j + 1) :: st) S I R Q := by
  refine e_go (fun _ _ h => vok_cons (v := vI 0) (by show InR 0; unfold InR; omega) (vok_tl h)) (fun p l e Rm s m args below meth c Hm locs cells slots lsM Z _ _ _ _ hC hx hb hF kk => ?_) k
  rw [List.map_cons, mv_lit (cx_old hC) (show j < 14 by omega) (by omega)]
  exact vk_getf hx hb ((cx_old hC).1.1 j hj).2.1 hF.2.2 hC.2.2.2.1 (hC.2.2.2.2.1 _ hw) (fun _ h => h) hd kk
theorem e_getLv {j : Nat} (hj : j < 6) (hd : decode (mC μ) pc = .ok (.getfield idx, 3)) (hw : Cond.fieldLink (mO μ) idx "java/lang/String" "value" "[B" ∈ lw_t2) (k : E G μ (pc + 3) ls (vO (j + 7) :: st) S I R Q) : E G μ pc ls (vO (j + 1) :: st) S I R Q := by
  refine e_go (fun _ _ h => vok_cons (v := vO (j + 7)) trivial (vok_tl h)) (fun p l e Rm s m args below meth c Hm locs cells slots lsM Z _ _ _ _ hC hx hb hF kk => ?_) k
  rw [List.map_cons, mv_lit (cx_old hC) (show j < 14 by omega) (by omega)]
  rw [List.map_cons, show j + 7 = (j + 6) + 1 by omega, mv_lit (cx_old hC) (show j + 6 < 14 by omega) (by omega)] at kk
  exact vk_getf hx hb ((cx_old hC).1.1 j hj).2.2.1 hF.2.2 hC.2.2.2.1 (hC.2.2.2.2.1 _ hw) (fun _ h => h) hd kk
theorem litLen_le : ∀ j, j < 6 → litLen.getD j 0 ≤ 2 := by decide +kernel
theorem e_lenL {j : Nat} (hj : j < 6) (hd : decode (mC μ) pc = .ok (.arraylength, 1)) (k : E G μ (pc + 1) ls (vI (litLen.getD j 0 : Int) :: st) S I R Q) : E G μ pc ls (vO (j + 7) :: st) S I R Q := by
  have hl := litLen_le j hj
  refine e_go (fun _ _ h => vok_cons (v := vI _) (by show InR _; unfold InR; omega) (vok_tl h)) (fun p l e Rm s m args below meth c Hm locs cells slots lsM Z _ _ _ _ hC hx hb hF kk => ?_) k
  rw [List.map_cons, show j + 7 = (j + 6) + 1 by omega, mv_lit (cx_old hC) (show j + 6 < 14 by omega) (by omega)]
  exact va_tlen hx hb ((cx_old hC).1.1 j hj).2.2.2 hF.2.2 rfl hd kk
theorem e_ifnonnullO {j : Nat} {off : Int} {tgt : Nat} (hj : j < 6) (hd : decode (mC μ) pc = .ok (.ifnonnull off, 3)) (ht : (pc : Int) + off = (tgt : Int)) (k : E G μ tgt ls st S I R Q) : E G μ pc ls (vO (j + 1) :: st) S I R Q := by
  refine e_go (fun _ _ h => vok_tl h) (fun p l e Rm s m args below meth c Hm locs cells slots lsM Z _ _ _ o4 hC hx hb hF kk => ?_) k
  rw [List.map_cons, mv_lit (cx_old hC) (show j < 14 by omega) (by omega)]
  exact lv_ifnonnull hx hb hd ht kk
theorem rvo_ne (G : Gl) {a b : Nat} : rvo G a = rvo G b ↔ a = b := by
  cases a <;> cases b <;> simp [rvo]
theorem e_acmp_ne {a b : Nat} {off : Int} {tgt : Nat} (hd : decode (mC μ) pc = .ok (.if_acmp .ne off, 3)) (ht : (pc : Int) + off = (tgt : Int)) (kt : a ≠ b → E G μ tgt ls st S I R Q) (kf : a = b → E G μ (pc + 3) ls st S I R Q) : E G μ pc ls (vR b :: vR a :: st) S I R Q := by
  by_cases h : a = b
  · refine e_go (fun _ _ o => vok_tl (vok_tl o)) (fun p l e Rm s m args below meth c Hm locs cells slots lsM Z _ _ _ o4 hC hx hb hF kk => ?_) (kf h)
    rw [List.map_cons, List.map_cons, ← rvo_rf, ← rvo_rf]
    exact lv_acmp_ne hx hb hd ht (fun q => absurd ((rvo_ne G).mpr h) q) (fun _ => kk)
  · refine e_go (fun _ _ o => vok_tl (vok_tl o)) (fun p l e Rm s m args below meth c Hm locs cells slots lsM Z _ _ _ o4 hC hx hb hF kk => ?_) (kt h)
    rw [List.map_cons, List.map_cons, ← rvo_rf, ← rvo_rf]
    exact lv_acmp_ne hx hb hd ht (fun _ => kk) (fun q => absurd q (fun q2 => h ((rvo_ne G).mp q2)))
/-- a cell of ours that is a text -/
theorem recv_ci {p : Program} {Rm : Room} {s : State} {m : MethodId} {args : Array Value} {meth : Method} {c : Code} {Hm : Heap} {r ci : Nat} (o1 : okS S) (hC : Cx G μ p Rm s m args meth c) (hM : MRel G S I R Hm) (hci : ci < 11) (ht : sT S r = ci + 1) : ∃ cell : Cell, Hm[gB G + (r - 1)]? = some cell ∧ cell.vm.isStatics = false ∧ s.vm.findClass (clC ci) = some cell.cls := by
  obtain ⟨h1, h2⟩ := tag_in o1 ht
  have hwr := wsOf_get G I R h1 h2
  rw [ht, cellE_cls G hci] at hwr
  exact va_recv hC.2.2.2.2.2.2.2.2.1 hM.1 (clOK_all ci hci).1 hwr
theorem cls_at {p : Program} {Rm : Room} {s : State} {m : MethodId} {args : Array Value} {meth : Method} {c : Code} {ci : Nat} (hC : Cx G μ p Rm s m args meth c) (hci : ci < 11) : ClassAt s (clC ci) ((gD G).1 ci) := (hC.2.2.2.2.2.2.2.2.1.1 ci _ (clOK_all ci hci).1).2
theorem e_instS {r : Nat} (hd : decode (mC μ) pc = .ok (.instanceof idx, 3)) (hw : Cond.classLink (mO μ) idx RJ0 ∈ lw_t2) (ht : sT S r = 10) (k : E G μ (pc + 3) ls (vI 1 :: st) S I R Q) : E G μ pc ls (vR r :: st) S I R Q := by
  refine e_go (fun _ _ h => vok_cons (v := vI 1) (by show InR 1; unfold InR; omega) (vok_tl h)) (fun p l e Rm s m args below meth c Hm locs cells slots lsM Z o1 _ _ _ hC hx hb hF kk => ?_) k
  have h1 := (tag_in o1 (show sT S r = 9 + 1 from ht)).1
  rw [List.map_cons, mv_ref G h1]
  exact va_instS hx hb hC.2.2.2.1 (hC.2.2.2.2.1 _ hw) (cls_at (ci := 9) hC (by omega)) (recv_ci o1 hC hF.2.1 (by omega) ht) hd kk
theorem e_castS {r : Nat} (hd : decode (mC μ) pc = .ok (.checkcast idx, 3)) (hw : Cond.classLink (mO μ) idx RJ0 ∈ lw_t2) (ht : sT S r = 10) (k : E G μ (pc + 3) ls (vR r :: st) S I R Q) : E G μ pc ls (vR r :: st) S I R Q := by
  refine e_go (fun _ _ h => h) (fun p l e Rm s m args below meth c Hm locs cells slots lsM Z o1 _ _ _ hC hx hb hF kk => ?_) k
  have h1 := (tag_in o1 (show sT S r = 9 + 1 from ht)).1
  rw [List.map_cons, mv_ref G h1] at kk ⊢
  exact va_castS hx hb hC.2.2.2.1 (hC.2.2.2.2.1 _ hw) (cls_at (ci := 9) hC (by omega)) (recv_ci o1 hC hF.2.1 (by omega) ht) hd kk
/-- a method of String at a constant of text -/
theorem e_invVL {j : Nat} {as : List PV} (hj : j < 6) (hd : decode (mC μ) pc = .ok (.invokevirtual idx, 3)) (hok : mOK μ' n) (hw : Cond.methodLink (mO μ) idx (mY μ') ∈ lw_t2 ∧ Cond.instanceMethod (mY μ') ∈ lw_t2 ∧ Cond.selects (mY μ').cls (mY μ') (mY μ') ∈ lw_t2) (hk : mK μ' < mK μ ∧ mL μ' + mW μ' + 19 ≤ mW μ) (hlen : ((vO (j + 1) :: as).map pcat).sum ≤ mL μ') (hn : as.length = n) (hst : (st.map pcat).sum ≤ 8)
    (hci : "java/lang/String" = (mY μ').cls)
    (k : E G μ' 0 (lsArgs 0 (vO (j + 1) :: as)) [] S I R Q') (kk : ∀ S' I' R' v, Q' S' I' R' v → E G μ (pc + 3) ls (retl v ++ st) S' I' R' Q) : E G μ pc ls ((vO (j + 1) :: as).reverse ++ st) S I R Q := by
  refine e_callC hok hk hlen ?_ k kk
  intro p l e Rm s m args below meth c Hm locs cells slots lsM mc ms Qc o1 hC hM hsz hMet hR hf hp
  have hts := hC.2.2.2.2.1
  have hrecv : ∃ cell : Cell, Hm[gA G (j + 1)]? = some cell ∧ cell.vm.isStatics = false ∧ s.vm.findClass (mY μ').cls = some cell.cls := by
    obtain ⟨U, hU, hW⟩ : ∃ U : State, U.heap = Hm ∧ s.WarmedH U.vm := ⟨{ s with heap := Hm }, rfl, State.WarmedH.refl s⟩
    obtain ⟨cell, q1, q2, q3, -⟩ := ((hp.2 U hU hW).2.2.2.2.2.2.1.1 j hj).1
    rw [hU] at q1
    refine ⟨cell, q1, q2, ?_⟩
    have h9 := Vm.Alike.findClass hW.alike "java/lang/String"
    rw [← hci]
    exact (h9 none).symm.trans q3
  have hgood : GoodIn lw_t2 (wsV (mO μ) idx (mY μ').cls (mY μ') (wsM μ')) := fun w hw' => by
    unfold wsV at hw'
    rcases List.mem_append.mp hw' with h | h
    · simp only [List.mem_cons, List.not_mem_nil, or_false] at h
      rcases h with rfl | rfl | rfl | rfl
      · exact good_in hw.1
      · exact good_in hw.2.1
      · exact good_in hw.2.2
      · exact good_in hok.2.2.2.2.2
    · exact good_ws hok w h
  have hcw : CallW Rm s args (mO μ) (mY μ').cls idx (mY μ') (mC μ') (mL μ') (mR μ') (wsM μ') (rmM μ' mc ms) mc ms n := cwV n hts hgood rfl rfl rfl ⟨rfl, hok.2.2.2.1⟩ hR
  have hmv : mv G (vO (j + 1)) = .ref (gA G (j + 1)) := mv_lit (cx_old hC) (by omega) (by omega)
  have hrun := va_runV (l := l) (e := e) (below := below) (meth := meth) (locs := locs) (cells := cells) (slots := slots) (As := as.map (mv G)) (rest := st.map (mv G)) (b := gA G (j + 1)) (g := F0 m pc lsM ((as.map (mv G)).reverse ++ .ref (gA G (j + 1)) :: st.map (mv G))) ⟨hC.1, hC.2.1, hC.2.2.1, hC.2.2.2.1, hts⟩ hMet hcw ⟨hp.1, hrecv, fun U hU hW => by
    have := hp.2 U hU hW
    rw [List.map_cons, hmv] at this
    exact this⟩ rfl (by rw [List.length_map]; exact hn) hsz rfl (lv_room (by have := cat_sum G hst; omega)) hd hf
  rw [show ((vO (j + 1) :: as).reverse ++ st).map (mv G) = (as.map (mv G)).reverse ++ .ref (gA G (j + 1)) :: st.map (mv G) by simp [← hmv], show ((vO (j + 1) :: as).map (mv G)).toArray = (Value.ref (gA G (j + 1)) :: as.map (mv G)).toArray by rw [List.map_cons, hmv]]
  exact hrun
/-- a method that StringBuilder has of the class above it -/
theorem e_invVU {r : Nat} {as : List PV} (hd : decode (mC μ) pc = .ok (.invokevirtual idx, 3)) (hok : mOK μ' n) (hcl : (mY μ').cls = RJ5) (hw : Cond.methodLink (mO μ) idx (mY μ') ∈ lw_t2 ∧ Cond.instanceMethod (mY μ') ∈ lw_t2 ∧ Cond.selects RJ4 (mY μ') (mY μ') ∈ lw_t2 ∧ Cond.sameMethod (mY μ').cls RJ5 (mY μ').name (mY μ').desc ∈ lw_t2) (hk : mK μ' < mK μ ∧ mL μ' + mW μ' + 19 ≤ mW μ) (hlen : ((vR r :: as).map pcat).sum ≤ mL μ') (hn : as.length = n) (hst : (st.map pcat).sum ≤ 8)
    (ht : sT S r = 11)
    (k : E G μ' 0 (lsArgs 0 (vR r :: as)) [] S I R Q') (kk : ∀ S' I' R' v, Q' S' I' R' v → E G μ (pc + 3) ls (retl v ++ st) S' I' R' Q) : E G μ pc ls ((vR r :: as).reverse ++ st) S I R Q := by
  refine e_callC hok hk hlen ?_ k kk
  intro p l e Rm s m args below meth c Hm locs cells slots lsM mc ms Qc o1 hC hM hsz hMet hR hf hp
  have h1 := (tag_in o1 (show sT S r = 10 + 1 from ht)).1
  have hts := hC.2.2.2.2.1
  have hrecv : ∃ cell : Cell, Hm[gB G + (r - 1)]? = some cell ∧ cell.vm.isStatics = false ∧ s.vm.findClass RJ4 = some cell.cls := recv_ci (ci := 10) o1 hC hM (by omega) ht
  have hyx : mY μ' = ⟨RJ5, (mY μ').name, (mY μ').desc⟩ := by rw [← hcl]
  have hgood : GoodIn lw_t2 (va_wsU (mO μ) idx RJ4 RJ5 (mY μ') (mY μ') (wsM μ')) := fun w hw' => by
    unfold va_wsU at hw'
    rcases List.mem_append.mp hw' with h | h
    · simp only [List.mem_cons, List.not_mem_nil, or_false] at h
      rcases h with rfl | rfl | rfl | rfl | rfl
      · exact good_in hw.1
      · exact good_in hw.2.2.2
      · exact good_in hw.2.2.1
      · exact good_in hw.2.1
      · exact good_in hok.2.2.2.2.2
    · exact good_ws hok w h
  have hd2 := hok.2.2.2.1
  rw [hcl] at hd2
  have hcw := va_cwU (s := s) (R := Rm) (args := args) (rm := rmM μ' mc ms) (mc := mc) (ms := ms) n hts hgood rfl rfl rfl hyx hd2 hR
  have hmv : mv G (vR r) = .ref (gB G + (r - 1)) := mv_ref G h1
  have hrun := va_runU (l := l) (e := e) (below := below) (meth := meth) (locs := locs) (cells := cells) (slots := slots) (As := as.map (mv G)) (rest := st.map (mv G)) (b := gB G + (r - 1)) (g := F0 m pc lsM ((as.map (mv G)).reverse ++ .ref (gB G + (r - 1)) :: st.map (mv G))) ⟨hC.1, hC.2.1, hC.2.2.1, hC.2.2.2.1, hts⟩ hMet hcw ⟨hp.1, hrecv, fun U hU hW => by
    have := hp.2 U hU hW
    rw [List.map_cons, hmv] at this
    exact this⟩ rfl (by rw [List.length_map]; exact hn) hsz rfl (lv_room (by have := cat_sum G hst; omega)) hd hf
  rw [show ((vR r :: as).reverse ++ st).map (mv G) = (as.map (mv G)).reverse ++ .ref (gB G + (r - 1)) :: st.map (mv G) by simp [← hmv], show ((vR r :: as).map (mv G)).toArray = (Value.ref (gB G + (r - 1)) :: as.map (mv G)).toArray by rw [List.map_cons, hmv]]
  exact hrun
/-- super.method: StringBuilder's calls of the class above it -/
theorem e_invSU {r : Nat} {as : List PV} (hd : decode (mC μ) pc = .ok (.invokespecial idx, 3)) (hok : mOK μ' n) (hin : (mY μ').name ≠ "<init>") (hw : Cond.methodLink (mO μ) idx (mY μ') ∈ lw_t2 ∧ Cond.instanceMethod (mY μ') ∈ lw_t2 ∧ Cond.superclass (mO μ) (mY μ').cls ∈ lw_t2 ∧ Cond.sameMethod (mY μ').cls (mY μ').cls (mY μ').name (mY μ').desc ∈ lw_t2) (hk : mK μ' < mK μ ∧ mL μ' + mW μ' + 19 ≤ mW μ) (hlen : ((vR r :: as).map pcat).sum ≤ mL μ') (hn : as.length = n) (hst : (st.map pcat).sum ≤ 8)
    (hO : mO μ = RJ4) (ht : sT S r = 11)
    (k : E G μ' 0 (lsArgs 0 (vR r :: as)) [] S I R Q') (kk : ∀ S' I' R' v, Q' S' I' R' v → E G μ (pc + 3) ls (retl v ++ st) S' I' R' Q) : E G μ pc ls ((vR r :: as).reverse ++ st) S I R Q := by
  refine e_callC hok hk hlen ?_ k kk
  intro p l e Rm s m args below meth c Hm locs cells slots lsM mc ms Qc o1 hC hM hsz hMet hR hf hp
  have h1 := (tag_in o1 (show sT S r = 10 + 1 from ht)).1
  have hts := hC.2.2.2.2.1
  have hrecv : ∃ cell : Cell, Hm[gB G + (r - 1)]? = some cell ∧ cell.vm.isStatics = false ∧ s.vm.findClass RJ4 = some cell.cls := recv_ci (ci := 10) o1 hC hM (by omega) ht
  have hgood : GoodIn lw_t2 (va_wsSU (mO μ) idx (mY μ') (wsM μ')) := fun w hw' => by
    unfold va_wsSU at hw'
    rcases List.mem_append.mp hw' with h | h
    · simp only [List.mem_cons, List.not_mem_nil, or_false] at h
      rcases h with rfl | rfl | rfl | rfl | rfl
      · exact good_in hw.1
      · exact good_in hw.2.2.2
      · exact good_in hw.2.2.1
      · exact good_in hw.2.1
      · exact good_in hok.2.2.2.2.2
    · exact good_ws hok w h
  have hcw := va_cwSU (s := s) (R := Rm) (args := args) (rm := rmM μ' mc ms) (mc := mc) (ms := ms) n hts hgood rfl rfl rfl ⟨hin, hok.2.2.2.1.2.2⟩ hR
  have hmv : mv G (vR r) = .ref (gB G + (r - 1)) := mv_ref G h1
  have hrun := va_runSU (l := l) (e := e) (below := below) (meth := meth) (locs := locs) (cells := cells) (slots := slots) (As := as.map (mv G)) (rest := st.map (mv G)) (b := gB G + (r - 1)) (g := F0 m pc lsM ((as.map (mv G)).reverse ++ .ref (gB G + (r - 1)) :: st.map (mv G))) (cls_at (ci := 10) hC (by omega)) ⟨hC.1, hC.2.1, hC.2.2.1, hC.2.2.2.1, hts⟩ hMet hcw ⟨hp.1, hrecv, fun U hU hW => by
    have := hp.2 U hU hW
    rw [List.map_cons, hmv] at this
    exact this⟩ rfl (by rw [List.length_map]; exact hn) hsz rfl (lv_room (by have := cat_sum G hst; omega)) hd hf
  rw [show ((vR r :: as).reverse ++ st).map (mv G) = (as.map (mv G)).reverse ++ .ref (gB G + (r - 1)) :: st.map (mv G) by simp [← hmv], show ((vR r :: as).map (mv G)).toArray = (Value.ref (gB G + (r - 1)) :: as.map (mv G)).toArray by rw [List.map_cons, hmv]]
  exact hrun
end TX
end
section
/-! ===== THE WALK: bytes copied out of a constant of text, an array of bytes doubled ===== -/
def litF (j k : Nat) : Int := ((litByt.getD j []).getD k 0).toInt
theorem litF_rng : ∀ j, j < 6 → ∀ k, k < litLen.getD j 0 → 0 ≤ litF j k ∧ litF j k < 128 := by decide +kernel
section UC
variable {G : Gl} {μ μ' : MB} {pc pc2 : Nat} {ls ls2 : Lc} {st st2 as : List PV} {S S2 : Sh} {I I2 : MI} {R R2 : MR} {Q Q' : PQ} {idx ci f a n : Nat} {i x y : Int}
theorem e_copyL {j : Nat} {sp dp n : Int} (hj : j < 6) (hd : decode (mC μ) pc = .ok (.invokestatic idx, 3)) (hw : Cond.methodLink (mO μ) idx arraycopyName ∈ lw_t2 ∧ Cond.native arraycopyName ∈ lw_t2 ∧ Cond.static arraycopyName ∈ lw_t2 ∧ Cond.initialized "java/lang/System" ∈ lw_t2)
    (hk : 1 ≤ mK μ ∧ 40 ≤ mW μ) (hst : (st.map pcat).sum ≤ 8) (ht : sT S a = 22) (h1 : 0 ≤ sp) (h2 : 0 ≤ dp) (h3 : 0 ≤ n) (h4 : sp + n ≤ (litLen.getD j 0 : Int)) (h5 : dp + n ≤ (sL S a : Int))
    (k : E G μ (pc + 3) ls st S (up1 I a (va_cpy (litF j) (I a) sp.toNat dp.toNat n.toNat)) R Q) : E G μ pc ls (vI n :: vI dp :: vR a :: vI sp :: vO (j + 7) :: st) S I R Q := by
  refine e_step (Nat.le_refl _) (Nat.le_refl _) (fun o1 o2 o3 o4 => ⟨o1, ?_, o3, vok_tl (vok_tl (vok_tl (vok_tl (vok_tl o4))))⟩) ?_ k
  · intro b q
    by_cases hb : b = a
    · subst hb
      rw [up1_s]
      unfold va_cpy
      rw [ht]
      split
      · rename_i hq
        have := litF_rng j hj (sp.toNat + (q - dp.toNat)) (by omega)
        show -128 ≤ _ ∧ _ < 128
        omega
      · have := o2 b q
        rw [ht] at this
        exact this
    · rw [up1_n hb]; exact o2 b q
  intro p l e Rm s m args below meth c Hm locs cells slots lsM Z o1 o2 o3 o4 hC hc hs hF kk
  have hK := hC.2.2.2.2.2.2.2.2.1
  have hT := hC.2.2.2.2.2.2.2.2.2.1
  have hts := hC.2.2.2.2.1
  have in_n : InR n := vok_hd o4
  have in_d : InR dp := vok_hd (vok_tl o4)
  have in_s : InR sp := vok_hd (vok_tl (vok_tl (vok_tl o4)))
  obtain ⟨q1, q2, -⟩ := o1.2 a (by omega)
  have hw1 := wsOf_get G I R q1 q2
  rw [ht, cellE_int G (by omega) (by omega)] at hw1
  simp only [List.map_cons]
  rw [mv_ref G q1, show j + 7 = (j + 6) + 1 by omega, mv_lit (cx_old hC) (show j + 6 < 14 by omega) (by omega)]
  have neg : ∀ {z : Int}, InR z → 0 ≤ z → ¬ Int32.ofInt z < 0 := fun {z} hz h0 h => by
    rw [Int32.lt_iff_toInt_lt, o32 hz] at h
    have : z < 0 := h
    omega
  have hcs := cl_of in_s
  have hcd := cl_of in_d
  have hcn := cl_of in_n
  have hset := wsOf_set G (S := S) (I := I) (I' := up1 I a (va_cpy (litF j) (I a) sp.toNat dp.toNat n.toNat)) (R := R) (R' := R) q1 q2 (fun b hb => up1_n hb) (fun _ _ => rfl) (e := .inl (gC G 22, sL S a, .inl (fun q => Int32.ofInt (va_cpy (litF j) (I a) sp.toNat dp.toNat n.toNat q)))) (by rw [ht, cellE_int G (by omega) (by omega), up1_s])
  obtain ⟨scr, hs1, ⟨hs6, k0, hk0, cm0, hkk0⟩, hs3, hs4, -, hs5, hs7⟩ := ((cx_old hC).1.1 j hj).2.2.2
  have hc0 : Hm[gA G (j + 7)]? = some scr := by rw [hF.2.2.2.1 _ (Array.getElem?_eq_some_iff.mp hs1).1 hs7]; exact hs1
  have hc1 : Hm[gB G + (a - 1)]? = some (vp_cell (gC G 22) (sL S a, .inl (fun j => Int32.ofInt (I a j)))) := hF.2.1.1 _ _ hw1
  have htyp := gT_at (t := 22) hT rfl
  obtain ⟨-, k1, hk1, cm1, hkk1⟩ := (hK.2 _ _ htyp).1 (sL S a) (fun j => .int (Int32.ofInt (I a j)))
  have lf : ∀ q, Int32.ofInt (litF j q) = (litByt.getD j []).getD q 0 := fun q => Int32.ofInt_toInt _
  intro T hTm X
  obtain ⟨vm', X', step⟩ := X.arraycopy hC.1 hC.2.2.2.1 (hts _ hw.1) (hts _ hw.2.1) (hts _ hw.2.2.1) (hts _ hw.2.2.2) (src := gA G (j + 7)) (dst := gB G + (a - 1)) (cs := scr) (cd := vp_cell (gC G 22) (sL S a, .inl (fun j => Int32.ofInt (I a j)))) (srcPos := Int32.ofInt sp) (destPos := Int32.ofInt dp) (n := Int32.ofInt n) (by rw [hTm]; exact hc0) (by rw [hTm]; exact hc1)
    hs6 (fun _ h => by cases h) hs3 (fun h => by cases h) hk0 hk1 hkk0 hkk1 (by simp [refKind]) (neg in_s h1) (neg in_d h2) (neg in_n h3)
    (by rw [o32 in_s, o32 in_n]; omega)
    (by rw [o32 in_d, o32 in_n]; show ¬ _ > ((arrV (gC G 22) (sL S a) (fun j => .int (Int32.ofInt (I a j)))).slots.size : Int); rw [arrV_size]; omega)
    (fun vm₁ _ i hi => by
      rw [hcn] at hi
      have e : scr.slots.getD ((Int32.ofInt sp).toNatClampNeg + i) .null = .int (Int32.ofInt (litF j (sp.toNat + i))) := by
        rw [Array.getD_eq_getD_getElem?, hcs, hs5 _ (by omega), lf]
        rfl
      refine ⟨?_, ?_⟩
      · rw [e]
        have := litF_rng j hj (sp.toNat + i) (by omega)
        exact fits_b (by omega)
      · rw [e]; exact trivial)
    (g := F0 m pc lsM (.int (Int32.ofInt n) :: .int (Int32.ofInt dp) :: .ref (gB G + (a - 1)) :: .int (Int32.ofInt sp) :: .ref (gA G (j + 7)) :: st.map (mv G))) rfl (by rw [hC.2.2.1]; exact hF.1.1) (rest := st.map (mv G)) rfl (by rw [hC.2.1]; exact hd) (by have := hC.2.2.2.2.2.2.2.2.2.2.1; omega) (by
      have hr1 := hC.2.2.2.2.2.2.2.2.2.2.2.1
      have hr0 : ((st.map (mv G)).map fun v => v.category).sum = (st.map pcat).sum := by rw [List.map_map]; congr 1; exact List.map_congr_left (fun v _ => mv_cat G v)
      have hnw : nativeFrameWords "java/lang/System" "arraycopy" 5 + 11 ≤ 20 := by decide +kernel
      show 2 * 0 + _ + _ ≤ _
      omega)
  have e1 : copied scr (vp_cell (gC G 22) (sL S a, .inl (fun j => Int32.ofInt (I a j)))) (Int32.ofInt sp) (Int32.ofInt dp) (Int32.ofInt n) = vp_cell (gC G 22) (sL S a, .inl (fun q => Int32.ofInt (va_cpy (litF j) (I a) sp.toNat dp.toNat n.toNat q))) := by
    have := va_copiedX (fun z => .int z) scr (gC G 22) (n1 := sL S a) (n0 := litLen.getD j 0) (sp := (Int32.ofInt sp).toNatClampNeg) (dp := (Int32.ofInt dp).toNatClampNeg) (n := (Int32.ofInt n).toNatClampNeg) (fun q => (litByt.getD j []).getD q 0) (fun j => Int32.ofInt (I a j)) hs5 (by rw [hcs, hcn]; omega)
    refine Eq.trans this ?_
    rw [hcs, hcd, hcn, vp_cell_i]
    refine congrArg (arrV _ _) (funext fun q => ?_)
    unfold va_cpy
    split
    · rw [lf]
    · rfl
  rw [e1] at X' step
  have hl : gB G + (a - 1) < Hm.size := (Array.getElem?_eq_some_iff.mp hc1).1
  generalize hnew : vp_cell (gC G 22) (sL S a, .inl (fun q => Int32.ofInt (va_cpy (litF j) (I a) sp.toNat dp.toNat n.toNat q))) = cnew at X' step
  have hheap : ((T.setVm vm').setCell (gB G + (a - 1)) cnew).heap = Hm.setIfInBounds (gB G + (a - 1)) cnew := by rw [← hTm]; rfl
  have oq : ∀ q : Nat, q ≠ gB G + (a - 1) → (Hm.setIfInBounds (gB G + (a - 1)) cnew)[q]? = Hm[q]? := fun q hq => by simp [Array.getElem?_setIfInBounds, Ne.symm hq]
  have hP := hF.2.1.1.set (wsOf_D G S I R) hw1 (e := .inl (gC G 22, sL S a, .inl (fun q => Int32.ofInt (va_cpy (litF j) (I a) sp.toNat dp.toNat n.toNat q)))) (H1 := Hm.setIfInBounds (gB G + (a - 1)) cnew) (by
    show (Hm.setIfInBounds _ _)[_]? = some (vp_cell _ _)
    rw [hnew]
    simp [Array.getElem?_setIfInBounds, hl]) oq
  rw [hset] at hP
  have hS2 : ∀ L : List Loc, (∀ q ∈ L, q.base = gB G + (a - 1)) → va_S (fun q => gB G ≤ q) s.heap (Hm.setIfInBounds (gB G + (a - 1)) cnew) (locs ++ L) := fun L hL => by
    refine ⟨by simp; exact hF.2.2.1, fun q g1 g2 => ?_, fun q hq => ?_⟩
    · rw [oq q (fun e => g2 (by rw [e]; show gB G ≤ gB G + (a - 1); omega))]
      exact hF.2.2.2.1 q g1 g2
    · rcases List.mem_append.mp hq with h | h
      · exact hF.2.2.2.2 q h
      · rw [hL q h]; show gB G ≤ gB G + (a - 1); omega
  have fin : ∀ L : List Loc, (∀ q ∈ L, q.base = gB G + (a - 1)) → W p l e Rm s m args below meth c (Hm.setIfInBounds (gB G + (a - 1)) cnew) (locs ++ L) cells slots Z (F0 m (pc + 3) lsM (st.map (mv G))) := fun L hL => by
    have := kk _ _ lsM ⟨hF.1, ⟨hP, by simp; exact hF.2.1.2⟩, hS2 L hL⟩
    simpa using this
  obtain ⟨t, a1, b1⟩ := fin _ (by
    intro q hq
    obtain ⟨z, -, hz⟩ := List.mem_map.mp hq
    rw [← hz]) _ hheap X'
  exact ⟨t, step t a1, b1⟩
def mCl {α : Type} (f : Nat → Nat → α) (a b : Nat) : Nat → Nat → α := up1 f a (f b)
theorem e_clone {r : Nat} (hd : decode (mC μ) pc = .ok (.invokevirtual idx, 3)) (hw : Cond.methodLink (mO μ) idx ⟨"[B", "clone", "()Ljava/lang/Object;"⟩ ∈ lw_t2 ∧ Cond.sameMethod "[B" "java/lang/Object" "clone" "()Ljava/lang/Object;" ∈ lw_t2 ∧ Cond.native ⟨"java/lang/Object", "clone", "()Ljava/lang/Object;"⟩ ∈ lw_t2 ∧ Cond.instanceMethod ⟨"java/lang/Object", "clone", "()Ljava/lang/Object;"⟩ ∈ lw_t2 ∧
      Cond.selects "[B" ⟨"[B", "clone", "()Ljava/lang/Object;"⟩ ⟨"java/lang/Object", "clone", "()Ljava/lang/Object;"⟩ ∈ lw_t2 ∧ Cond.arrayClass .byte ∈ lw_t2) (hk : 1 ≤ mK μ ∧ 40 ≤ mW μ) (hst : (st.map pcat).sum ≤ 8) (ht : sT S r = 22)
    (k : E G μ (pc + 3) ls (vR (sN S) :: st) (shNew S 22 (sL S r) (sL S r)) (mCl I (sN S) r) (mNew R (sN S) 0) Q) : E G μ pc ls (vR r :: st) S I R Q := by
  refine e_step (by rw [sN_new]; omega) (by rw [sU_new]; omega) (fun o1 o2 o3 o4 => ⟨okS_new o1 (by omega) (o1.2 r (by omega)).2.2.2, fun b q => ?_, o3, vok_cons (v := vR _) trivial (vok_tl o4)⟩) ?_ k
  · rw [sT_new]
    unfold mCl up1
    by_cases hb : b = sN S
    · rw [if_pos hb, if_pos hb]
      have := o2 r q
      rw [ht] at this
      exact this
    · rw [if_neg hb, if_neg hb]
      exact o2 b q
  intro p l e Rm s m args below meth c Hm locs cells slots lsM Z o1 o2 o3 o4 hC hc hs hF kk
  rw [sN_new] at hc
  rw [sU_new] at hs
  have hsz := hF.2.1.2
  have hK := hC.2.2.2.2.2.2.2.2.1
  have hT := hC.2.2.2.2.2.2.2.2.2.1
  have hts := hC.2.2.2.2.1
  have hfr := hC.2.2.2.2.2.2.2.2.2.2.1
  have hlo := hC.2.2.2.2.2.2.2.2.2.2.2.1
  have hcs := cat_sum G hst
  obtain ⟨q1, q2, -⟩ := o1.2 r (by omega)
  have hw1 := wsOf_get G I R q1 q2
  rw [ht, cellE_int G (by omega) (by omega)] at hw1
  have htyp := gT_at (t := 22) hT rfl
  obtain ⟨cB, kB, compB, f1, f2, f3⟩ := Cond.arrayClass_spec (hts _ hw.2.2.2.2.2)
  have hcB : cB = gC G 22 := tys_eq (t := 22) hK hT rfl f1
  rw [hcB] at f1
  have hcl : va_Nw (.castable "[B" "java/lang/Cloneable") s := hC.2.2.2.2.2.2.2.2.2.2.2.2.2.2.2.2.1.2.2.2.2.2
  obtain ⟨c0, t0', g1, g2, g3⟩ := Cond.castable_spec (va_Nw.use (A := args) rfl hcl)
  cases (show s.vm.findClass "[B" = some (gC G 22) from f1).symm.trans g1
  have hcell : Hm[gB G + (r - 1)]? = some (vp_cell (gC G 22) (sL S r, .inl (fun j => Int32.ofInt (I r j)))) := hF.2.1.1 _ _ hw1
  rw [List.map_cons, mv_ref G q1]
  generalize hx : vp_cell (gC G 22) (sL S r, .inl (fun j => Int32.ofInt (I r j))) = cell at hcell
  have c1 : cell.cls = gC G 22 := by rw [← hx]; rfl
  have c2 : cell.vm = .none := by rw [← hx]; rfl
  have c3 : cell.slots.size = sL S r := by rw [← hx]; exact arrV_size _ _ _
  have c4 : ({ cls := cell.cls, slots := cell.slots } : Cell) = cell := by rw [← hx]; rfl
  intro T hTm X
  obtain ⟨-, kA, hkA, comp, hkind⟩ := State.isArrayOf_alike X.warmed.alike ((hK.2 _ _ htyp).1 0 (fun _ => .null))
  obtain ⟨-, kS, hkS, compS, hkindS⟩ := (hK.2 _ _ htyp).1 0 (fun _ => .null)
  obtain ⟨vm', X', stp⟩ := X.cloneArray hC.1 hC.2.2.2.1 (hts _ hw.1) (hts _ hw.2.1) (hts _ hw.2.2.1) (hts _ hw.2.2.2.1) (hts _ hw.2.2.2.2.1) (a := gB G + (r - 1)) (cell := cell) (by rw [hTm]; exact hcell) (fun k h => by rw [c2] at h; cases h) (by rw [c2]; exact fun h => by cases h) (by rw [c1]; exact f1) g2 (by rw [c1]; exact g3)
    (fun i v hv => by
      rw [c1]
      have hk' : T.vm.classes[gC G 22]? = some kA := hkA
      have hv2 : (arrV (gC G 22) (sL S r) (fun j => .int (Int32.ofInt (I r j)))).slots[i]? = some v := by rw [← hx] at hv; exact hv
      have hi : i < sL S r := by
        have := (Array.getElem?_eq_some_iff.mp hv2).1
        rwa [arrV_size] at this
      rw [arrV_read _ _ hi] at hv2
      have hb := o2 r i
      rw [ht] at hb
      have := fits_b hb
      rw [Option.some.inj hv2] at this
      simpa [State.fitsSlot, State.slotType?, hk', hkind] using this)
    (g := F0 m pc lsM (.ref (gB G + (r - 1)) :: st.map (mv G))) rfl (by rw [hC.2.2.1]; exact hF.1.1) rfl (by rw [hC.2.1]; exact hd) (by omega) (by show 2 * 0 + _ + 14 ≤ _; omega) (by omega) (by rw [c3]; omega) (hloader := by rw [c1]; exact Vm.clonesLoader_of_array hkS hkindS)
  rw [c4, c3] at X'
  generalize hH1 : Hm.push cell = H1
  have z1 : H1.size = Hm.size + 1 := by rw [← hH1, Array.size_push]
  have e1 : H1[Hm.size]? = some cell := by rw [← hH1, Array.getElem?_push_size]
  have oq : ∀ q : Nat, q < Hm.size → H1[q]? = Hm[q]? := fun q hq => by rw [← hH1, Array.getElem?_push, if_neg (Nat.ne_of_lt hq)]
  have hP : va_P (gD G) vwCl (wsOf G (shNew S 22 (sL S r) (sL S r)) (mCl I (sN S) r) (mNew R (sN S) 0)) H1 := by
    rw [wsOf_push G (S' := shNew S 22 (sL S r) (sL S r)) (I := I) (R := R) (I' := mCl I (sN S) r) (R' := mNew R (sN S) 0) o1.1 (sN_new _ _ _ _) (fun k hk => by rw [sT_new, up1_n (by omega)]) (fun k hk => by rw [sL_new, up1_n (by omega)]) (fun k hk => by unfold mCl; exact up1_n (by omega)) (fun k hk => by unfold mNew; exact up1_n (by omega))]
    refine (hF.2.1.1.kept (fun k q hk => oq q.1 (hF.2.1.1 k q hk).lt)).app (fun k q hq => ?_)
    have hz : k < 1 := (List.getElem?_eq_some_iff.mp hq).1
    rw [show k = 0 by omega] at hq
    cases hq
    rw [sT_new, sL_new, up1_s, up1_s, cellE_int G (by omega) (by omega), ← hsz]
    show H1[Hm.size]? = some (vp_cell _ _)
    rw [e1, ← hx]
    unfold mCl
    rw [up1_s]
  have hS2 : va_S (fun q => gB G ≤ q) s.heap H1 locs := ⟨by have := hF.2.2.1; omega, fun q h1 h2 => (oq q (Nat.lt_of_lt_of_le h1 hF.2.2.1)).trans (hF.2.2.2.1 q h1 h2), hF.2.2.2.2⟩
  have := kk H1 locs lsM ⟨hF.1, ⟨hP, by rw [sN_new, z1, hsz]; have := o1.1; omega⟩, hS2⟩
  rw [List.map_cons, mv_ref G o1.1, ← hsz, sN_new, sU_new] at this
  rw [show sN S + 1 - sN S = 1 by omega, show sU S + sL S r - sU S = sL S r by omega] at this
  obtain ⟨t, b1, b2⟩ := this ((T.setVm vm').pushCell cell) (by rw [← hH1, ← hTm]; rfl) X'
  refine ⟨t, stp t ?_, b2⟩
  rw [c4, hTm]
  exact b1
theorem e_castB {r : Nat} (hd : decode (mC μ) pc = .ok (.checkcast idx, 3)) (hw : Cond.classLink (mO μ) idx "[B" ∈ lw_t2 ∧ Cond.arrayClass .byte ∈ lw_t2) (ht : sT S r = 22) (k : E G μ (pc + 3) ls (vR r :: st) S I R Q) : E G μ pc ls (vR r :: st) S I R Q := by
  refine e_go (fun _ _ h => h) (fun p l e Rm s m args below meth c Hm locs cells slots lsM Z o1 _ _ _ hC hx hb hF kk => ?_) k
  obtain ⟨q1, q2, -⟩ := o1.2 r (by omega)
  have hw1 := wsOf_get G I R q1 q2
  rw [ht, cellE_int G (by omega) (by omega)] at hw1
  obtain ⟨cB, kB, compB, f1, f2, f3⟩ := Cond.arrayClass_spec (hC.2.2.2.2.1 _ hw.2)
  have hcB : cB = gC G 22 := tys_eq (t := 22) hC.2.2.2.2.2.2.2.2.1 hC.2.2.2.2.2.2.2.2.2.1 rfl f1
  rw [hcB] at f1
  rw [List.map_cons, mv_ref G q1] at kk ⊢
  exact va_castA hx hb hC.2.2.2.1 (hC.2.2.2.2.1 _ hw.1) hF.2.1.1 (r - 1) hw1 f1 hd kk
end UC
end
