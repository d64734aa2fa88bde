-- ===== PART A: goes FIRST, ahead of the names: the tables' words, and 'selects' of the private methods out of them =====
/-- a private method of a class that the tables say can be made, by its rows of tables_1 -/
def lw_okq (q : MethodName × Nat) : Prop := (q.1.cls ≠ "java/lang/invoke/MethodHandle" ∧ q.1.cls ≠ "java/lang/invoke/VarHandle") ∧ Cond.instantiable q.1.cls q.2 ∈ tables_1 ∧ Cond.privateMethod q.1 ∈ tables_1 ∧ Cond.instanceMethod q.1 ∈ tables_1
theorem lw_p0 : lw_okq (⟨"StairsNear$Ring", "listDegree", "(I)V"⟩, 7) := ⟨⟨by decide +kernel, by decide +kernel⟩, List.mem_of_getElem? (i := 32) (by decide +kernel), List.mem_of_getElem? (i := 62) (by decide +kernel), List.mem_of_getElem? (i := 63) (by decide +kernel)⟩
theorem lw_p1 : lw_okq (⟨"StairsNear$Ring", "linkProducts", "(I)V"⟩, 7) := ⟨⟨by decide +kernel, by decide +kernel⟩, List.mem_of_getElem? (i := 32) (by decide +kernel), List.mem_of_getElem? (i := 77) (by decide +kernel), List.mem_of_getElem? (i := 78) (by decide +kernel)⟩
theorem lw_p2 : lw_okq (⟨"StairsNear", "forgetWhatWasWorkedOut", "()V"⟩, 11) := ⟨⟨by decide +kernel, by decide +kernel⟩, List.mem_of_getElem? (i := 24) (by decide +kernel), List.mem_of_getElem? (i := 351) (by decide +kernel), List.mem_of_getElem? (i := 352) (by decide +kernel)⟩
theorem lw_p3 : lw_okq (⟨"StairsNear$Poly", "insert", "(III)V"⟩, 3) := ⟨⟨by decide +kernel, by decide +kernel⟩, List.mem_of_getElem? (i := 139) (by decide +kernel), List.mem_of_getElem? (i := 378) (by decide +kernel), List.mem_of_getElem? (i := 379) (by decide +kernel)⟩
theorem lw_p4 : lw_okq (⟨"StairsNear", "held", "(I)I"⟩, 11) := ⟨⟨by decide +kernel, by decide +kernel⟩, List.mem_of_getElem? (i := 24) (by decide +kernel), List.mem_of_getElem? (i := 420) (by decide +kernel), List.mem_of_getElem? (i := 421) (by decide +kernel)⟩
theorem lw_p5 : lw_okq (⟨"StairsNear$Division", "begin", "([LStairsNear$Poly;IILStairsNear$Numbers;)V"⟩, 9) := ⟨⟨by decide +kernel, by decide +kernel⟩, List.mem_of_getElem? (i := 220) (by decide +kernel), List.mem_of_getElem? (i := 428) (by decide +kernel), List.mem_of_getElem? (i := 429) (by decide +kernel)⟩
theorem lw_p6 : lw_okq (⟨"StairsNear$Division", "bestDivisor", "()I"⟩, 9) := ⟨⟨by decide +kernel, by decide +kernel⟩, List.mem_of_getElem? (i := 220) (by decide +kernel), List.mem_of_getElem? (i := 462) (by decide +kernel), List.mem_of_getElem? (i := 463) (by decide +kernel)⟩
theorem lw_p7 : lw_okq (⟨"StairsNear$Division", "stepBy", "(ILStairsNear$Numbers;)Z"⟩, 9) := ⟨⟨by decide +kernel, by decide +kernel⟩, List.mem_of_getElem? (i := 220) (by decide +kernel), List.mem_of_getElem? (i := 471) (by decide +kernel), List.mem_of_getElem? (i := 472) (by decide +kernel)⟩
theorem lw_p8 : lw_okq (⟨"StairsNear$Division", "subtract", "(LStairsNear$Equation;LStairsNear$Numbers;)Z"⟩, 9) := ⟨⟨by decide +kernel, by decide +kernel⟩, List.mem_of_getElem? (i := 220) (by decide +kernel), List.mem_of_getElem? (i := 480) (by decide +kernel), List.mem_of_getElem? (i := 481) (by decide +kernel)⟩
theorem lw_p9 : lw_okq (⟨"StairsNear", "putSpare", "(I)I"⟩, 11) := ⟨⟨by decide +kernel, by decide +kernel⟩, List.mem_of_getElem? (i := 24) (by decide +kernel), List.mem_of_getElem? (i := 515) (by decide +kernel), List.mem_of_getElem? (i := 516) (by decide +kernel)⟩
theorem lw_p10 : lw_okq (⟨"StairsNear$Tape", "ahead", "()I"⟩, 8) := ⟨⟨by decide +kernel, by decide +kernel⟩, List.mem_of_getElem? (i := 169) (by decide +kernel), List.mem_of_getElem? (i := 620) (by decide +kernel), List.mem_of_getElem? (i := 621) (by decide +kernel)⟩
theorem lw_p11 : lw_okq (⟨"StairsNear$Tape", "readSummand", "(ZLStairsNear$Ring;)V"⟩, 8) := ⟨⟨by decide +kernel, by decide +kernel⟩, List.mem_of_getElem? (i := 169) (by decide +kernel), List.mem_of_getElem? (i := 624) (by decide +kernel), List.mem_of_getElem? (i := 625) (by decide +kernel)⟩
theorem lw_p12 : lw_okq (⟨"StairsNear$Tape", "factorIsAhead", "(LStairsNear$Ring;)Z"⟩, 8) := ⟨⟨by decide +kernel, by decide +kernel⟩, List.mem_of_getElem? (i := 169) (by decide +kernel), List.mem_of_getElem? (i := 631) (by decide +kernel), List.mem_of_getElem? (i := 632) (by decide +kernel)⟩
theorem lw_p13 : lw_okq (⟨"StairsNear$Tape", "blame", "(II)V"⟩, 8) := ⟨⟨by decide +kernel, by decide +kernel⟩, List.mem_of_getElem? (i := 169) (by decide +kernel), List.mem_of_getElem? (i := 641) (by decide +kernel), List.mem_of_getElem? (i := 642) (by decide +kernel)⟩
theorem lw_p14 : lw_okq (⟨"StairsNear$Tape", "readFactor", "(LStairsNear$Ring;)V"⟩, 8) := ⟨⟨by decide +kernel, by decide +kernel⟩, List.mem_of_getElem? (i := 169) (by decide +kernel), List.mem_of_getElem? (i := 645) (by decide +kernel), List.mem_of_getElem? (i := 646) (by decide +kernel)⟩
theorem lw_p15 : lw_okq (⟨"StairsNear$Tape", "readDigits", "(I)I"⟩, 8) := ⟨⟨by decide +kernel, by decide +kernel⟩, List.mem_of_getElem? (i := 169) (by decide +kernel), List.mem_of_getElem? (i := 649) (by decide +kernel), List.mem_of_getElem? (i := 650) (by decide +kernel)⟩
def lw_privs_1 : List (MethodName × Nat) := [(⟨"StairsNear$Ring", "listDegree", "(I)V"⟩, 7), (⟨"StairsNear$Ring", "linkProducts", "(I)V"⟩, 7), (⟨"StairsNear", "forgetWhatWasWorkedOut", "()V"⟩, 11), (⟨"StairsNear$Poly", "insert", "(III)V"⟩, 3), (⟨"StairsNear", "held", "(I)I"⟩, 11), (⟨"StairsNear$Division", "begin", "([LStairsNear$Poly;IILStairsNear$Numbers;)V"⟩, 9), (⟨"StairsNear$Division", "bestDivisor", "()I"⟩, 9), (⟨"StairsNear$Division", "stepBy", "(ILStairsNear$Numbers;)Z"⟩, 9), (⟨"StairsNear$Division", "subtract", "(LStairsNear$Equation;LStairsNear$Numbers;)Z"⟩, 9), (⟨"StairsNear", "putSpare", "(I)I"⟩, 11), (⟨"StairsNear$Tape", "ahead", "()I"⟩, 8), (⟨"StairsNear$Tape", "readSummand", "(ZLStairsNear$Ring;)V"⟩, 8), (⟨"StairsNear$Tape", "factorIsAhead", "(LStairsNear$Ring;)Z"⟩, 8), (⟨"StairsNear$Tape", "blame", "(II)V"⟩, 8), (⟨"StairsNear$Tape", "readFactor", "(LStairsNear$Ring;)V"⟩, 8), (⟨"StairsNear$Tape", "readDigits", "(I)I"⟩, 8)]
theorem lw_r1 : ∀ q ∈ lw_privs_1, lw_okq q := List.forall_mem_cons.mpr ⟨lw_p0, List.forall_mem_cons.mpr ⟨lw_p1, List.forall_mem_cons.mpr ⟨lw_p2, List.forall_mem_cons.mpr ⟨lw_p3, List.forall_mem_cons.mpr ⟨lw_p4, List.forall_mem_cons.mpr ⟨lw_p5, List.forall_mem_cons.mpr ⟨lw_p6, List.forall_mem_cons.mpr ⟨lw_p7, List.forall_mem_cons.mpr ⟨lw_p8, List.forall_mem_cons.mpr ⟨lw_p9, List.forall_mem_cons.mpr ⟨lw_p10, List.forall_mem_cons.mpr ⟨lw_p11, List.forall_mem_cons.mpr ⟨lw_p12, List.forall_mem_cons.mpr ⟨lw_p13, List.forall_mem_cons.mpr ⟨lw_p14, List.forall_mem_cons.mpr ⟨lw_p15, fun _ h => absurd h List.not_mem_nil⟩⟩⟩⟩⟩⟩⟩⟩⟩⟩⟩⟩⟩⟩⟩⟩
theorem lw_p16 : lw_okq (⟨"StairsNear$Tape", "readPower", "(I)V"⟩, 8) := ⟨⟨by decide +kernel, by decide +kernel⟩, List.mem_of_getElem? (i := 169) (by decide +kernel), List.mem_of_getElem? (i := 658) (by decide +kernel), List.mem_of_getElem? (i := 659) (by decide +kernel)⟩
theorem lw_p17 : lw_okq (⟨"StairsNear", "multiply", "(LStairsNear$Poly;LStairsNear$Poly;)Z"⟩, 11) := ⟨⟨by decide +kernel, by decide +kernel⟩, List.mem_of_getElem? (i := 24) (by decide +kernel), List.mem_of_getElem? (i := 905) (by decide +kernel), List.mem_of_getElem? (i := 906) (by decide +kernel)⟩
theorem lw_p18 : lw_okq (⟨"StairsNear", "isBound", "(I)Z"⟩, 11) := ⟨⟨by decide +kernel, by decide +kernel⟩, List.mem_of_getElem? (i := 24) (by decide +kernel), List.mem_of_getElem? (i := 919) (by decide +kernel), List.mem_of_getElem? (i := 920) (by decide +kernel)⟩
theorem lw_p19 : lw_okq (⟨"StairsNear", "idealOf", "(I)LStairsNear$Ideal;"⟩, 11) := ⟨⟨by decide +kernel, by decide +kernel⟩, List.mem_of_getElem? (i := 24) (by decide +kernel), List.mem_of_getElem? (i := 923) (by decide +kernel), List.mem_of_getElem? (i := 924) (by decide +kernel)⟩
theorem lw_p20 : lw_okq (⟨"StairsNear", "oldestIdeal", "()LStairsNear$Ideal;"⟩, 11) := ⟨⟨by decide +kernel, by decide +kernel⟩, List.mem_of_getElem? (i := 24) (by decide +kernel), List.mem_of_getElem? (i := 927) (by decide +kernel), List.mem_of_getElem? (i := 928) (by decide +kernel)⟩
theorem lw_p21 : lw_okq (⟨"StairsNear$Ideal", "load", "(LStairsNear$Poly;LStairsNear$Ring;)V"⟩, 4) := ⟨⟨by decide +kernel, by decide +kernel⟩, List.mem_of_getElem? (i := 282) (by decide +kernel), List.mem_of_getElem? (i := 938) (by decide +kernel), List.mem_of_getElem? (i := 939) (by decide +kernel)⟩
theorem lw_p22 : lw_okq (⟨"StairsNear$Ideal", "insertLine", "(ILStairsNear$Numbers;)V"⟩, 4) := ⟨⟨by decide +kernel, by decide +kernel⟩, List.mem_of_getElem? (i := 282) (by decide +kernel), List.mem_of_getElem? (i := 943) (by decide +kernel), List.mem_of_getElem? (i := 944) (by decide +kernel)⟩
theorem lw_p23 : lw_okq (⟨"StairsNear$Ideal", "storeRow", "(IILStairsNear$Numbers;)V"⟩, 4) := ⟨⟨by decide +kernel, by decide +kernel⟩, List.mem_of_getElem? (i := 282) (by decide +kernel), List.mem_of_getElem? (i := 947) (by decide +kernel), List.mem_of_getElem? (i := 948) (by decide +kernel)⟩
theorem lw_p24 : lw_okq (⟨"StairsNear$Ideal", "subtractRow", "(IILStairsNear$Numbers;)V"⟩, 4) := ⟨⟨by decide +kernel, by decide +kernel⟩, List.mem_of_getElem? (i := 282) (by decide +kernel), List.mem_of_getElem? (i := 953) (by decide +kernel), List.mem_of_getElem? (i := 954) (by decide +kernel)⟩
theorem lw_p25 : lw_okq (⟨"StairsNear$Ideal", "loadProduct", "([I[II)V"⟩, 4) := ⟨⟨by decide +kernel, by decide +kernel⟩, List.mem_of_getElem? (i := 282) (by decide +kernel), List.mem_of_getElem? (i := 959) (by decide +kernel), List.mem_of_getElem? (i := 960) (by decide +kernel)⟩
theorem lw_p26 : lw_okq (⟨"StairsNear$Ideal", "markNoCorner", "(I)V"⟩, 4) := ⟨⟨by decide +kernel, by decide +kernel⟩, List.mem_of_getElem? (i := 282) (by decide +kernel), List.mem_of_getElem? (i := 963) (by decide +kernel), List.mem_of_getElem? (i := 964) (by decide +kernel)⟩
theorem lw_p27 : lw_okq (⟨"StairsNear$Text", "put", "(I)V"⟩, 2) := ⟨⟨by decide +kernel, by decide +kernel⟩, List.mem_of_getElem? (i := 205) (by decide +kernel), List.mem_of_getElem? (i := 984) (by decide +kernel), List.mem_of_getElem? (i := 985) (by decide +kernel)⟩
theorem lw_p28 : lw_okq (⟨"StairsNear$Text", "putNumber", "(I)V"⟩, 2) := ⟨⟨by decide +kernel, by decide +kernel⟩, List.mem_of_getElem? (i := 205) (by decide +kernel), List.mem_of_getElem? (i := 989) (by decide +kernel), List.mem_of_getElem? (i := 990) (by decide +kernel)⟩
theorem lw_p29 : lw_okq (⟨"StairsNear$Text", "putPower", "(II)V"⟩, 2) := ⟨⟨by decide +kernel, by decide +kernel⟩, List.mem_of_getElem? (i := 205) (by decide +kernel), List.mem_of_getElem? (i := 994) (by decide +kernel), List.mem_of_getElem? (i := 995) (by decide +kernel)⟩
theorem lw_p30 : lw_okq (⟨"StairsNear$Ideal", "isOf", "(II)Z"⟩, 4) := ⟨⟨by decide +kernel, by decide +kernel⟩, List.mem_of_getElem? (i := 282) (by decide +kernel), List.mem_of_getElem? (i := 1032) (by decide +kernel), List.mem_of_getElem? (i := 1033) (by decide +kernel)⟩
def lw_privs_2 : List (MethodName × Nat) := [(⟨"StairsNear$Tape", "readPower", "(I)V"⟩, 8), (⟨"StairsNear", "multiply", "(LStairsNear$Poly;LStairsNear$Poly;)Z"⟩, 11), (⟨"StairsNear", "isBound", "(I)Z"⟩, 11), (⟨"StairsNear", "idealOf", "(I)LStairsNear$Ideal;"⟩, 11), (⟨"StairsNear", "oldestIdeal", "()LStairsNear$Ideal;"⟩, 11), (⟨"StairsNear$Ideal", "load", "(LStairsNear$Poly;LStairsNear$Ring;)V"⟩, 4), (⟨"StairsNear$Ideal", "insertLine", "(ILStairsNear$Numbers;)V"⟩, 4), (⟨"StairsNear$Ideal", "storeRow", "(IILStairsNear$Numbers;)V"⟩, 4), (⟨"StairsNear$Ideal", "subtractRow", "(IILStairsNear$Numbers;)V"⟩, 4), (⟨"StairsNear$Ideal", "loadProduct", "([I[II)V"⟩, 4), (⟨"StairsNear$Ideal", "markNoCorner", "(I)V"⟩, 4), (⟨"StairsNear$Text", "put", "(I)V"⟩, 2), (⟨"StairsNear$Text", "putNumber", "(I)V"⟩, 2), (⟨"StairsNear$Text", "putPower", "(II)V"⟩, 2), (⟨"StairsNear$Ideal", "isOf", "(II)Z"⟩, 4)]
theorem lw_r2 : ∀ q ∈ lw_privs_2, lw_okq q := List.forall_mem_cons.mpr ⟨lw_p16, List.forall_mem_cons.mpr ⟨lw_p17, List.forall_mem_cons.mpr ⟨lw_p18, List.forall_mem_cons.mpr ⟨lw_p19, List.forall_mem_cons.mpr ⟨lw_p20, List.forall_mem_cons.mpr ⟨lw_p21, List.forall_mem_cons.mpr ⟨lw_p22, List.forall_mem_cons.mpr ⟨lw_p23, List.forall_mem_cons.mpr ⟨lw_p24, List.forall_mem_cons.mpr ⟨lw_p25, List.forall_mem_cons.mpr ⟨lw_p26, List.forall_mem_cons.mpr ⟨lw_p27, List.forall_mem_cons.mpr ⟨lw_p28, List.forall_mem_cons.mpr ⟨lw_p29, List.forall_mem_cons.mpr ⟨lw_p30, fun _ h => absurd h List.not_mem_nil⟩⟩⟩⟩⟩⟩⟩⟩⟩⟩⟩⟩⟩⟩⟩
def lw_privs : List (MethodName × Nat) := lw_privs_1 ++ (lw_privs_2)
def lw_tbl : List Cond := k2_sels lw_privs ++ tables_1
theorem lw_privs_ok : ∀ q ∈ lw_privs, lw_okq q := by
  show ∀ q ∈ lw_privs_1 ++ (lw_privs_2), lw_okq q
  exact List.forall_mem_append.mpr ⟨lw_r1, lw_r2⟩

-- names, printed by the kit's program out of the class files
/-! ===== BEGIN words of one list among another's, by their places ===== -/
theorem goodIn_r {big : List Cond} (ws : List Cond) (ps : List Nat) (hp : ws = ps.filterMap (fun i => big[i]?)) (h : ws.all goodWord = true) : GoodIn big ws := by
  intro w hw
  have h1 := List.all_eq_true.mp h w hw
  rw [hp] at hw
  obtain ⟨i, -, hi⟩ := List.mem_filterMap.mp hw
  have hm : w ∈ big := by first | exact List.mem_of_getElem? hi | exact List.getElem?_mem hi
  exact ⟨hm, good_of_word h1⟩
theorem goodIn_app {big a b : List Cond} (ha : GoodIn big a) (hb : GoodIn big b) : GoodIn big (a ++ b) := fun w h => (List.mem_append.mp h).elim (ha w) (hb w)
theorem goodIn_ca {big a b : List Cond} {c : Cond} (ha : GoodIn big (c :: a)) (hb : GoodIn big b) : GoodIn big (c :: (a ++ b)) := fun w h => (List.mem_cons.mp h).elim (fun e => ha w (List.mem_cons.mpr (Or.inl e))) (fun h => (List.mem_append.mp h).elim (fun h => ha w (List.mem_cons.mpr (Or.inr h))) (hb w))
theorem goodIn_sub {big ws : List Cond} (hm : ∀ w ∈ ws, w ∈ big) (h : ws.all goodWord = true) : GoodIn big ws := fun w hw => ⟨hm w hw, good_of_word (List.all_eq_true.mp h w hw)⟩
/-! ===== END ===== -/
def RX0 : String := "StairsNear$Division"
def TX0 : u_T := fun k => match k with
  | 0 => ("StairsNear$Division", "stands", "Z", false)
  | 1 => ("StairsNear$Division", "set", "I", false)
  | 2 => ("StairsNear$Division", "slot", "I", false)
  | 3 => ("StairsNear$Division", "steps", "I", false)
  | 4 => ("StairsNear$Division", "divisors", "I", false)
  | 5 => ("StairsNear$Division", "equations", "[LStairsNear$Equation;", true)
  | 6 => ("StairsNear$Division", "told", "[[I", true)
  | 7 => ("StairsNear$Division", "now", "LStairsNear$Equation;", false)
  | _ => ("StairsNear$Division", "after", "LStairsNear$Equation;", false)
def tyX0 : Nat → FieldType := fun k => match k with
  | 0 => .boolean
  | 1 => .int
  | 2 => .int
  | 3 => .int
  | 4 => .int
  | 5 => .array (.object "StairsNear$Equation")
  | 6 => .array (.array .int)
  | 7 => .object "StairsNear$Equation"
  | _ => .object "StairsNear$Equation"
abbrev wsX00 : List Cond := u_ws RX0 TX0 9
theorem nmX0 : ∀ a, a < 9 → ∀ b, b < 9 → a ≠ b → (TX0 a).2.1 ≠ (TX0 b).2.1 := by decide +kernel
theorem tyX0_ok : ∀ k, k < 9 → parseFieldDescriptor (TX0 k).2.2.1 = some (tyX0 k) := by decide +kernel
abbrev cX0_init : ByteArray := prog_2_method_1_code
def yX0_init : MethodName := ⟨RX0, "<init>", "()V"⟩
abbrev cX0_divide : ByteArray := prog_2_method_2_code
def yX0_divide : MethodName := ⟨RX0, "divide", "([LStairsNear$Poly;IILStairsNear$Numbers;)I"⟩
abbrev cX0_keptOne : ByteArray := prog_2_method_3_code
def yX0_keptOne : MethodName := ⟨RX0, "keptOne", "(I)LStairsNear$Poly;"⟩
abbrev cX0_tellStep : ByteArray := prog_2_method_4_code
def yX0_tellStep : MethodName := ⟨RX0, "tellStep", "(II)I"⟩
abbrev cX0_tellWhole : ByteArray := prog_2_method_5_code
def yX0_tellWhole : MethodName := ⟨RX0, "tellWhole", "(I)I"⟩
abbrev cX0_begin : ByteArray := prog_2_method_6_code
def yX0_begin : MethodName := ⟨RX0, "begin", "([LStairsNear$Poly;IILStairsNear$Numbers;)V"⟩
abbrev cX0_bestDivisor : ByteArray := prog_2_method_7_code
def yX0_bestDivisor : MethodName := ⟨RX0, "bestDivisor", "()I"⟩
abbrev cX0_stepBy : ByteArray := prog_2_method_8_code
def yX0_stepBy : MethodName := ⟨RX0, "stepBy", "(ILStairsNear$Numbers;)Z"⟩
abbrev cX0_subtract : ByteArray := prog_2_method_9_code
def yX0_subtract : MethodName := ⟨RX0, "subtract", "(LStairsNear$Equation;LStairsNear$Numbers;)Z"⟩
def RX1 : String := "StairsNear$Equation"
def TX1 : u_T := fun k => match k with
  | 0 => ("StairsNear$Equation", "value", "LStairsNear$Poly;", true)
  | 1 => ("StairsNear$Equation", "unit", "LStairsNear$Poly;", true)
  | _ => ("StairsNear$Equation", "shares", "[LStairsNear$Poly;", true)
def tyX1 : Nat → FieldType := fun k => match k with
  | 0 => .object "StairsNear$Poly"
  | 1 => .object "StairsNear$Poly"
  | _ => .array (.object "StairsNear$Poly")
abbrev wsX10 : List Cond := u_ws RX1 TX1 3
theorem nmX1 : ∀ a, a < 3 → ∀ b, b < 3 → a ≠ b → (TX1 a).2.1 ≠ (TX1 b).2.1 := by decide +kernel
theorem tyX1_ok : ∀ k, k < 3 → parseFieldDescriptor (TX1 k).2.2.1 = some (tyX1 k) := by decide +kernel
abbrev cX1_init : ByteArray := prog_3_method_1_code
def yX1_init : MethodName := ⟨RX1, "<init>", "()V"⟩
abbrev cX1_begin : ByteArray := prog_3_method_2_code
def yX1_begin : MethodName := ⟨RX1, "begin", "(LStairsNear$Poly;)V"⟩
abbrev cX1_become : ByteArray := prog_3_method_3_code
def yX1_become : MethodName := ⟨RX1, "become", "(LStairsNear$Equation;)V"⟩
abbrev cX1_mix : ByteArray := prog_3_method_4_code
def yX1_mix : MethodName := ⟨RX1, "mix", "(LStairsNear$Equation;IILStairsNear$Equation;LStairsNear$Numbers;)Z"⟩
def RX2 : String := "StairsNear$Ideal"
def TX2 : u_T := fun k => match k with
  | 0 => ("StairsNear$Ideal", "set", "I", false)
  | 1 => ("StairsNear$Ideal", "rows", "[[I", true)
  | 2 => ("StairsNear$Ideal", "kinds", "[I", true)
  | _ => ("StairsNear$Ideal", "line", "[I", true)
def tyX2 : Nat → FieldType := fun k => match k with
  | 0 => .int
  | 1 => .array (.array .int)
  | 2 => .array .int
  | _ => .array .int
abbrev wsX20 : List Cond := u_ws RX2 TX2 4
theorem nmX2 : ∀ a, a < 4 → ∀ b, b < 4 → a ≠ b → (TX2 a).2.1 ≠ (TX2 b).2.1 := by decide +kernel
theorem tyX2_ok : ∀ k, k < 4 → parseFieldDescriptor (TX2 k).2.2.1 = some (tyX2 k) := by decide +kernel
abbrev cX2_init : ByteArray := prog_4_method_1_code
def yX2_init : MethodName := ⟨RX2, "<init>", "()V"⟩
abbrev cX2_build : ByteArray := prog_4_method_2_code
def yX2_build : MethodName := ⟨RX2, "build", "([LStairsNear$Poly;ILStairsNear$Ring;)V"⟩
abbrev cX2_count : ByteArray := prog_4_method_3_code
def yX2_count : MethodName := ⟨RX2, "count", "(III)I"⟩
abbrev cX2_leaveOver : ByteArray := prog_4_method_7_code
def yX2_leaveOver : MethodName := ⟨RX2, "leaveOver", "(LStairsNear$Poly;ILStairsNear$Poly;LStairsNear$Ring;)Z"⟩
abbrev cX2_isOf : ByteArray := prog_4_method_8_code
def yX2_isOf : MethodName := ⟨RX2, "isOf", "(II)Z"⟩
abbrev cX2_load : ByteArray := prog_4_method_9_code
def yX2_load : MethodName := ⟨RX2, "load", "(LStairsNear$Poly;LStairsNear$Ring;)V"⟩
abbrev cX2_loadProduct : ByteArray := prog_4_method_10_code
def yX2_loadProduct : MethodName := ⟨RX2, "loadProduct", "([I[II)V"⟩
abbrev cX2_insertLine : ByteArray := prog_4_method_11_code
def yX2_insertLine : MethodName := ⟨RX2, "insertLine", "(ILStairsNear$Numbers;)V"⟩
abbrev cX2_storeRow : ByteArray := prog_4_method_12_code
def yX2_storeRow : MethodName := ⟨RX2, "storeRow", "(IILStairsNear$Numbers;)V"⟩
abbrev cX2_subtractRow : ByteArray := prog_4_method_13_code
def yX2_subtractRow : MethodName := ⟨RX2, "subtractRow", "(IILStairsNear$Numbers;)V"⟩
abbrev cX2_markNoCorner : ByteArray := prog_4_method_14_code
def yX2_markNoCorner : MethodName := ⟨RX2, "markNoCorner", "(I)V"⟩
def RX3 : String := "StairsNear$Mono"
def TX3 : u_T := fun k => match k with
  | _ => ("", "", "", false)
def tyX3 : Nat → FieldType := fun k => match k with
  | _ => .int
abbrev wsX30 : List Cond := u_ws RX3 TX3 0
theorem nmX3 : ∀ a, a < 0 → ∀ b, b < 0 → a ≠ b → (TX3 a).2.1 ≠ (TX3 b).2.1 := by decide +kernel
theorem tyX3_ok : ∀ k, k < 0 → parseFieldDescriptor (TX3 k).2.2.1 = some (tyX3 k) := by decide +kernel
abbrev cX3_degree : ByteArray := prog_5_method_2_code
def yX3_degree : MethodName := ⟨RX3, "degree", "(I)I"⟩
abbrev cX3_exponent : ByteArray := prog_5_method_3_code
def yX3_exponent : MethodName := ⟨RX3, "exponent", "(II)I"⟩
abbrev cX3_of : ByteArray := prog_5_method_4_code
def yX3_of : MethodName := ⟨RX3, "of", "(IIII)I"⟩
abbrev cX3_times : ByteArray := prog_5_method_5_code
def yX3_times : MethodName := ⟨RX3, "times", "(II)I"⟩
abbrev cX3_by : ByteArray := prog_5_method_6_code
def yX3_by : MethodName := ⟨RX3, "by", "(II)I"⟩
abbrev cX3_divides : ByteArray := prog_5_method_7_code
def yX3_divides : MethodName := ⟨RX3, "divides", "(II)Z"⟩
abbrev cX3_isTooHigh : ByteArray := prog_5_method_8_code
def yX3_isTooHigh : MethodName := ⟨RX3, "isTooHigh", "(I)Z"⟩
def RX4 : String := "StairsNear$Numbers"
def TX4 : u_T := fun k => match k with
  | _ => ("StairsNear$Numbers", "prime", "I", true)
def tyX4 : Nat → FieldType := fun k => match k with
  | _ => .int
abbrev wsX40 : List Cond := u_ws RX4 TX4 1
theorem nmX4 : ∀ a, a < 1 → ∀ b, b < 1 → a ≠ b → (TX4 a).2.1 ≠ (TX4 b).2.1 := by decide +kernel
theorem tyX4_ok : ∀ k, k < 1 → parseFieldDescriptor (TX4 k).2.2.1 = some (tyX4 k) := by decide +kernel
abbrev cX4_init : ByteArray := prog_6_method_1_code
def yX4_init : MethodName := ⟨RX4, "<init>", "(I)V"⟩
abbrev cX4_reduced : ByteArray := prog_6_method_2_code
def yX4_reduced : MethodName := ⟨RX4, "reduced", "(I)I"⟩
abbrev cX4_negative : ByteArray := prog_6_method_3_code
def yX4_negative : MethodName := ⟨RX4, "negative", "(I)I"⟩
abbrev cX4_times : ByteArray := prog_6_method_4_code
def yX4_times : MethodName := ⟨RX4, "times", "(II)I"⟩
abbrev cX4_plusTimes : ByteArray := prog_6_method_5_code
def yX4_plusTimes : MethodName := ⟨RX4, "plusTimes", "(III)I"⟩
abbrev cX4_inverse : ByteArray := prog_6_method_6_code
def yX4_inverse : MethodName := ⟨RX4, "inverse", "(I)I"⟩
def RX5 : String := "StairsNear$Poly"
def TX5 : u_T := fun k => match k with
  | 0 => ("StairsNear$Poly", "monos", "[I", true)
  | 1 => ("StairsNear$Poly", "nums", "[I", true)
  | _ => ("StairsNear$Poly", "size", "I", false)
def tyX5 : Nat → FieldType := fun k => match k with
  | 0 => .array .int
  | 1 => .array .int
  | _ => .int
abbrev wsX50 : List Cond := u_ws RX5 TX5 3
theorem nmX5 : ∀ a, a < 3 → ∀ b, b < 3 → a ≠ b → (TX5 a).2.1 ≠ (TX5 b).2.1 := by decide +kernel
theorem tyX5_ok : ∀ k, k < 3 → parseFieldDescriptor (TX5 k).2.2.1 = some (tyX5 k) := by decide +kernel
abbrev cX5_init : ByteArray := prog_7_method_1_code
def yX5_init : MethodName := ⟨RX5, "<init>", "(I)V"⟩
abbrev cX5_clear : ByteArray := prog_7_method_2_code
def yX5_clear : MethodName := ⟨RX5, "clear", "()V"⟩
abbrev cX5_low : ByteArray := prog_7_method_3_code
def yX5_low : MethodName := ⟨RX5, "low", "()I"⟩
abbrev cX5_high : ByteArray := prog_7_method_4_code
def yX5_high : MethodName := ⟨RX5, "high", "()I"⟩
abbrev cX5_ecart : ByteArray := prog_7_method_5_code
def yX5_ecart : MethodName := ⟨RX5, "ecart", "()I"⟩
abbrev cX5_append : ByteArray := prog_7_method_6_code
def yX5_append : MethodName := ⟨RX5, "append", "(II)Z"⟩
abbrev cX5_become : ByteArray := prog_7_method_7_code
def yX5_become : MethodName := ⟨RX5, "become", "(LStairsNear$Poly;)V"⟩
abbrev cX5_becomeNumber : ByteArray := prog_7_method_8_code
def yX5_becomeNumber : MethodName := ⟨RX5, "becomeNumber", "(I)V"⟩
abbrev cX5_mix : ByteArray := prog_7_method_11_code
def yX5_mix : MethodName := ⟨RX5, "mix", "(LStairsNear$Poly;IILStairsNear$Poly;LStairsNear$Numbers;)Z"⟩
abbrev cX5_add : ByteArray := prog_7_method_12_code
def yX5_add : MethodName := ⟨RX5, "add", "(IILStairsNear$Numbers;)V"⟩
abbrev cX5_dropZeros : ByteArray := prog_7_method_13_code
def yX5_dropZeros : MethodName := ⟨RX5, "dropZeros", "()V"⟩
abbrev cX5_reorder : ByteArray := prog_7_method_14_code
def yX5_reorder : MethodName := ⟨RX5, "reorder", "(LStairsNear$Ring;)V"⟩
abbrev cX5_insert : ByteArray := prog_7_method_15_code
def yX5_insert : MethodName := ⟨RX5, "insert", "(III)V"⟩
def RX6 : String := "StairsNear$Ring"
def TX6 : u_T := fun k => match k with
  | 0 => ("StairsNear$Ring", "variables", "I", false)
  | 1 => ("StairsNear$Ring", "numbers", "LStairsNear$Numbers;", false)
  | 2 => ("StairsNear$Ring", "weights", "[I", true)
  | 3 => ("StairsNear$Ring", "monos", "[I", true)
  | 4 => ("StairsNear$Ring", "below", "[I", true)
  | 5 => ("StairsNear$Ring", "next", "[[I", true)
  | _ => ("StairsNear$Ring", "listed", "I", false)
def tyX6 : Nat → FieldType := fun k => match k with
  | 0 => .int
  | 1 => .object "StairsNear$Numbers"
  | 2 => .array .int
  | 3 => .array .int
  | 4 => .array .int
  | 5 => .array (.array .int)
  | _ => .int
abbrev wsX60 : List Cond := u_ws RX6 TX6 7
theorem nmX6 : ∀ a, a < 7 → ∀ b, b < 7 → a ≠ b → (TX6 a).2.1 ≠ (TX6 b).2.1 := by decide +kernel
theorem tyX6_ok : ∀ k, k < 7 → parseFieldDescriptor (TX6 k).2.2.1 = some (tyX6 k) := by decide +kernel
abbrev cX6_init : ByteArray := prog_8_method_1_code
def yX6_init : MethodName := ⟨RX6, "<init>", "()V"⟩
abbrev cX6_bound : ByteArray := prog_8_method_2_code
def yX6_bound : MethodName := ⟨RX6, "bound", "()I"⟩
abbrev cX6_width : ByteArray := prog_8_method_3_code
def yX6_width : MethodName := ⟨RX6, "width", "()I"⟩
abbrev cX6_weigh : ByteArray := prog_8_method_4_code
def yX6_weigh : MethodName := ⟨RX6, "weigh", "(III)V"⟩
abbrev cX6_mono : ByteArray := prog_8_method_6_code
def yX6_mono : MethodName := ⟨RX6, "mono", "(III)I"⟩
abbrev cX6_variable : ByteArray := prog_8_method_7_code
def yX6_variable : MethodName := ⟨RX6, "variable", "(I)I"⟩
abbrev cX6_column : ByteArray := prog_8_method_8_code
def yX6_column : MethodName := ⟨RX6, "column", "(I)I"⟩
abbrev cX6_listDegree : ByteArray := prog_8_method_9_code
def yX6_listDegree : MethodName := ⟨RX6, "listDegree", "(I)V"⟩
abbrev cX6_linkProducts : ByteArray := prog_8_method_10_code
def yX6_linkProducts : MethodName := ⟨RX6, "linkProducts", "(I)V"⟩
def RX7 : String := "StairsNear$Tape"
def TX7 : u_T := fun k => match k with
  | 0 => ("StairsNear$Tape", "bytes", "[I", true)
  | 1 => ("StairsNear$Tape", "size", "I", false)
  | 2 => ("StairsNear$Tape", "fault", "I", false)
  | 3 => ("StairsNear$Tape", "place", "I", false)
  | 4 => ("StairsNear$Tape", "sum", "LStairsNear$Poly;", true)
  | 5 => ("StairsNear$Tape", "at", "I", false)
  | 6 => ("StairsNear$Tape", "num", "I", false)
  | _ => ("StairsNear$Tape", "exponents", "[I", true)
def tyX7 : Nat → FieldType := fun k => match k with
  | 0 => .array .int
  | 1 => .int
  | 2 => .int
  | 3 => .int
  | 4 => .object "StairsNear$Poly"
  | 5 => .int
  | 6 => .int
  | _ => .array .int
abbrev wsX70 : List Cond := u_ws RX7 TX7 8
theorem nmX7 : ∀ a, a < 8 → ∀ b, b < 8 → a ≠ b → (TX7 a).2.1 ≠ (TX7 b).2.1 := by decide +kernel
theorem tyX7_ok : ∀ k, k < 8 → parseFieldDescriptor (TX7 k).2.2.1 = some (tyX7 k) := by decide +kernel
abbrev cX7_init : ByteArray := prog_9_method_1_code
def yX7_init : MethodName := ⟨RX7, "<init>", "()V"⟩
abbrev cX7_take : ByteArray := prog_9_method_2_code
def yX7_take : MethodName := ⟨RX7, "take", "(I)V"⟩
abbrev cX7_clearFault : ByteArray := prog_9_method_3_code
def yX7_clearFault : MethodName := ⟨RX7, "clearFault", "()V"⟩
abbrev cX7_read : ByteArray := prog_9_method_4_code
def yX7_read : MethodName := ⟨RX7, "read", "(LStairsNear$Ring;)V"⟩
abbrev cX7_readSummand : ByteArray := prog_9_method_5_code
def yX7_readSummand : MethodName := ⟨RX7, "readSummand", "(ZLStairsNear$Ring;)V"⟩
abbrev cX7_factorIsAhead : ByteArray := prog_9_method_6_code
def yX7_factorIsAhead : MethodName := ⟨RX7, "factorIsAhead", "(LStairsNear$Ring;)Z"⟩
abbrev cX7_readFactor : ByteArray := prog_9_method_7_code
def yX7_readFactor : MethodName := ⟨RX7, "readFactor", "(LStairsNear$Ring;)V"⟩
abbrev cX7_readPower : ByteArray := prog_9_method_8_code
def yX7_readPower : MethodName := ⟨RX7, "readPower", "(I)V"⟩
abbrev cX7_readDigits : ByteArray := prog_9_method_9_code
def yX7_readDigits : MethodName := ⟨RX7, "readDigits", "(I)I"⟩
abbrev cX7_ahead : ByteArray := prog_9_method_10_code
def yX7_ahead : MethodName := ⟨RX7, "ahead", "()I"⟩
abbrev cX7_blame : ByteArray := prog_9_method_11_code
def yX7_blame : MethodName := ⟨RX7, "blame", "(II)V"⟩
abbrev cX7_isDigit : ByteArray := prog_9_method_12_code
def yX7_isDigit : MethodName := ⟨RX7, "isDigit", "(I)Z"⟩
abbrev cX7_isVariable : ByteArray := prog_9_method_13_code
def yX7_isVariable : MethodName := ⟨RX7, "isVariable", "(ILStairsNear$Ring;)Z"⟩
def RX8 : String := "StairsNear$Text"
def TX8 : u_T := fun k => match k with
  | 0 => ("StairsNear$Text", "bytes", "[I", true)
  | _ => ("StairsNear$Text", "size", "I", false)
def tyX8 : Nat → FieldType := fun k => match k with
  | 0 => .array .int
  | _ => .int
abbrev wsX80 : List Cond := u_ws RX8 TX8 2
theorem nmX8 : ∀ a, a < 2 → ∀ b, b < 2 → a ≠ b → (TX8 a).2.1 ≠ (TX8 b).2.1 := by decide +kernel
theorem tyX8_ok : ∀ k, k < 2 → parseFieldDescriptor (TX8 k).2.2.1 = some (tyX8 k) := by decide +kernel
abbrev cX8_init : ByteArray := prog_10_method_1_code
def yX8_init : MethodName := ⟨RX8, "<init>", "()V"⟩
abbrev cX8_write : ByteArray := prog_10_method_2_code
def yX8_write : MethodName := ⟨RX8, "write", "(LStairsNear$Poly;)V"⟩
abbrev cX8_putPower : ByteArray := prog_10_method_3_code
def yX8_putPower : MethodName := ⟨RX8, "putPower", "(II)V"⟩
abbrev cX8_putNumber : ByteArray := prog_10_method_4_code
def yX8_putNumber : MethodName := ⟨RX8, "putNumber", "(I)V"⟩
abbrev cX8_put : ByteArray := prog_10_method_5_code
def yX8_put : MethodName := ⟨RX8, "put", "(I)V"⟩
def RX9 : String := "StairsNear"
def TX9 : u_T := fun k => match k with
  | 0 => ("StairsNear", "ring", "LStairsNear$Ring;", true)
  | 1 => ("StairsNear", "slots", "[LStairsNear$Poly;", true)
  | 2 => ("StairsNear", "tape", "LStairsNear$Tape;", true)
  | 3 => ("StairsNear", "shown", "LStairsNear$Text;", true)
  | 4 => ("StairsNear", "division", "LStairsNear$Division;", true)
  | 5 => ("StairsNear", "ideals", "[LStairsNear$Ideal;", true)
  | 6 => ("StairsNear", "sources", "[LStairsNear$Poly;", true)
  | 7 => ("StairsNear", "nextIdeal", "I", false)
  | 8 => ("StairsNear", "spare", "LStairsNear$Poly;", false)
  | 9 => ("StairsNear", "product", "LStairsNear$Poly;", false)
  | _ => ("StairsNear", "productSpare", "LStairsNear$Poly;", false)
def tyX9 : Nat → FieldType := fun k => match k with
  | 0 => .object "StairsNear$Ring"
  | 1 => .array (.object "StairsNear$Poly")
  | 2 => .object "StairsNear$Tape"
  | 3 => .object "StairsNear$Text"
  | 4 => .object "StairsNear$Division"
  | 5 => .array (.object "StairsNear$Ideal")
  | 6 => .array (.object "StairsNear$Poly")
  | 7 => .int
  | 8 => .object "StairsNear$Poly"
  | 9 => .object "StairsNear$Poly"
  | _ => .object "StairsNear$Poly"
abbrev wsX90 : List Cond := u_ws RX9 TX9 11
theorem nmX9 : ∀ a, a < 11 → ∀ b, b < 11 → a ≠ b → (TX9 a).2.1 ≠ (TX9 b).2.1 := by decide +kernel
theorem tyX9_ok : ∀ k, k < 11 → parseFieldDescriptor (TX9 k).2.2.1 = some (tyX9 k) := by decide +kernel
abbrev cX9_init : ByteArray := prog_1_method_1_code
def yX9_init : MethodName := ⟨RX9, "<init>", "()V"⟩
abbrev cX9_ring : ByteArray := prog_1_method_2_code
def yX9_ring : MethodName := ⟨RX9, "ring", "(II)Z"⟩
abbrev cX9_weights : ByteArray := prog_1_method_3_code
def yX9_weights : MethodName := ⟨RX9, "weights", "(III)Z"⟩
abbrev cX9_feed : ByteArray := prog_1_method_4_code
def yX9_feed : MethodName := ⟨RX9, "feed", "(IIIII)I"⟩
abbrev cX9_end : ByteArray := prog_1_method_5_code
def yX9_end : MethodName := ⟨RX9, "end", "(I)Z"⟩
abbrev cX9_poly : ByteArray := prog_1_method_6_code
def yX9_poly : MethodName := ⟨RX9, "poly", "(I)I"⟩
abbrev cX9_show : ByteArray := prog_1_method_8_code
def yX9_show : MethodName := ⟨RX9, "show", "(I)I"⟩
abbrev cX9_out : ByteArray := prog_1_method_9_code
def yX9_out : MethodName := ⟨RX9, "out", "(I)I"⟩
abbrev cX9_term : ByteArray := prog_1_method_10_code
def yX9_term : MethodName := ⟨RX9, "term", "(III)I"⟩
abbrev cX9_shape : ByteArray := prog_1_method_11_code
def yX9_shape : MethodName := ⟨RX9, "shape", "(II)I"⟩
abbrev cX9_make : ByteArray := prog_1_method_12_code
def yX9_make : MethodName := ⟨RX9, "make", "(IIII)I"⟩
abbrev cX9_weak : ByteArray := prog_1_method_14_code
def yX9_weak : MethodName := ⟨RX9, "weak", "(II)I"⟩
abbrev cX9_kept : ByteArray := prog_1_method_15_code
def yX9_kept : MethodName := ⟨RX9, "kept", "(II)I"⟩
abbrev cX9_step : ByteArray := prog_1_method_16_code
def yX9_step : MethodName := ⟨RX9, "step", "(II)I"⟩
abbrev cX9_stairs : ByteArray := prog_1_method_19_code
def yX9_stairs : MethodName := ⟨RX9, "stairs", "(III)I"⟩
abbrev cX9_rest : ByteArray := prog_1_method_21_code
def yX9_rest : MethodName := ⟨RX9, "rest", "(IIII)I"⟩
abbrev cX9_look : ByteArray := prog_1_method_25_code
def yX9_look : MethodName := ⟨RX9, "look", "(I)I"⟩
abbrev cX9_polys : ByteArray := prog_1_method_26_code
def yX9_polys : MethodName := ⟨RX9, "polys", "(I)[LStairsNear$Poly;"⟩
abbrev cX9_isPrime : ByteArray := prog_1_method_27_code
def yX9_isPrime : MethodName := ⟨RX9, "isPrime", "(I)Z"⟩
abbrev cX9_isWeight : ByteArray := prog_1_method_28_code
def yX9_isWeight : MethodName := ⟨RX9, "isWeight", "(I)Z"⟩
abbrev cX9_isSlot : ByteArray := prog_1_method_29_code
def yX9_isSlot : MethodName := ⟨RX9, "isSlot", "(I)Z"⟩
abbrev cX9_isSet : ByteArray := prog_1_method_30_code
def yX9_isSet : MethodName := ⟨RX9, "isSet", "(I)Z"⟩
abbrev cX9_isBound : ByteArray := prog_1_method_31_code
def yX9_isBound : MethodName := ⟨RX9, "isBound", "(I)Z"⟩
abbrev cX9_held : ByteArray := prog_1_method_32_code
def yX9_held : MethodName := ⟨RX9, "held", "(I)I"⟩
abbrev cX9_putSpare : ByteArray := prog_1_method_33_code
def yX9_putSpare : MethodName := ⟨RX9, "putSpare", "(I)I"⟩
abbrev cX9_forgetWhatWasWorkedOut : ByteArray := prog_1_method_34_code
def yX9_forgetWhatWasWorkedOut : MethodName := ⟨RX9, "forgetWhatWasWorkedOut", "()V"⟩
abbrev cX9_multiply : ByteArray := prog_1_method_35_code
def yX9_multiply : MethodName := ⟨RX9, "multiply", "(LStairsNear$Poly;LStairsNear$Poly;)Z"⟩
abbrev cX9_oldestIdeal : ByteArray := prog_1_method_36_code
def yX9_oldestIdeal : MethodName := ⟨RX9, "oldestIdeal", "()LStairsNear$Ideal;"⟩
abbrev cX9_idealOf : ByteArray := prog_1_method_37_code
def yX9_idealOf : MethodName := ⟨RX9, "idealOf", "(I)LStairsNear$Ideal;"⟩
abbrev cX9_tellMono : ByteArray := prog_1_method_39_code
def yX9_tellMono : MethodName := ⟨RX9, "tellMono", "(II)I"⟩
def RX10 : String := "StairsNearModel"
def TX10 : u_T := fun k => match k with
  | _ => ("", "", "", false)
def tyX10 : Nat → FieldType := fun k => match k with
  | _ => .int
abbrev wsX100 : List Cond := u_ws RX10 TX10 0
theorem nmX10 : ∀ a, a < 0 → ∀ b, b < 0 → a ≠ b → (TX10 a).2.1 ≠ (TX10 b).2.1 := by decide +kernel
theorem tyX10_ok : ∀ k, k < 0 → parseFieldDescriptor (TX10 k).2.2.1 = some (tyX10 k) := by decide +kernel
def RJx145de : String := "java/io/Serializable"
def TJx145de : u_T := fun k => match k with
  | _ => ("", "", "", false)
def tyJx145de : Nat → FieldType := fun k => match k with
  | _ => .int
theorem nmJx145de : ∀ a, a < 0 → ∀ b, b < 0 → a ≠ b → (TJx145de a).2.1 ≠ (TJx145de b).2.1 := by decide +kernel
theorem tyJx145de_ok : ∀ k, k < 0 → parseFieldDescriptor (TJx145de k).2.2.1 = some (tyJx145de k) := by decide +kernel
def RJ5 : String := "java/lang/AbstractStringBuilder"
def TJ5 : u_T := fun k => match k with
  | _ => ("", "", "", false)
def tyJ5 : Nat → FieldType := fun k => match k with
  | _ => .int
theorem nmJ5 : ∀ a, a < 0 → ∀ b, b < 0 → a ≠ b → (TJ5 a).2.1 ≠ (TJ5 b).2.1 := by decide +kernel
theorem tyJ5_ok : ∀ k, k < 0 → parseFieldDescriptor (TJ5 k).2.2.1 = some (tyJ5 k) := by decide +kernel
abbrev cJ5_init_d00df : ByteArray := prog_13_method_2_code
def yJ5_init_d00df : MethodName := ⟨RJ5, "<init>", "(I)V"⟩
abbrev cJ5_length_8abf5 : ByteArray := prog_13_method_6_code
def yJ5_length_8abf5 : MethodName := ⟨RJ5, "length", "()I"⟩
abbrev cJ5_ensureCapacityInternal_d00df : ByteArray := prog_13_method_9_code
def yJ5_ensureCapacityInternal_d00df : MethodName := ⟨RJ5, "ensureCapacityInternal", "(I)V"⟩
abbrev cJ5_newCapacity_0f7a4 : ByteArray := prog_13_method_10_code
def yJ5_newCapacity_0f7a4 : MethodName := ⟨RJ5, "newCapacity", "(I)I"⟩
abbrev cJ5_inflate_da8c8 : ByteArray := prog_13_method_11_code
def yJ5_inflate_da8c8 : MethodName := ⟨RJ5, "inflate", "()V"⟩
abbrev cJ5_append_cf1ce : ByteArray := prog_13_method_22_code
def yJ5_append_cf1ce : MethodName := ⟨RJ5, "append", "(Ljava/lang/String;)Ljava/lang/AbstractStringBuilder;"⟩
abbrev cJ5_appendNull_278bc : ByteArray := prog_13_method_26_code
def yJ5_appendNull_278bc : MethodName := ⟨RJ5, "appendNull", "()Ljava/lang/AbstractStringBuilder;"⟩
abbrev cJ5_append_3fe6f : ByteArray := prog_13_method_31_code
def yJ5_append_3fe6f : MethodName := ⟨RJ5, "append", "(C)Ljava/lang/AbstractStringBuilder;"⟩
abbrev cJ5_append_c97b9 : ByteArray := prog_13_method_32_code
def yJ5_append_c97b9 : MethodName := ⟨RJ5, "append", "(I)Ljava/lang/AbstractStringBuilder;"⟩
abbrev cJ5_getValue_6d5f1 : ByteArray := prog_13_method_64_code
def yJ5_getValue_6d5f1 : MethodName := ⟨RJ5, "getValue", "()[B"⟩
abbrev cJ5_isLatin1_aae02 : ByteArray := prog_13_method_68_code
def yJ5_isLatin1_aae02 : MethodName := ⟨RJ5, "isLatin1", "()Z"⟩
abbrev cJ5_inflateIfNeededFor_a7421 : ByteArray := prog_13_method_71_code
def yJ5_inflateIfNeededFor_a7421 : MethodName := ⟨RJ5, "inflateIfNeededFor", "(Ljava/lang/String;)V"⟩
abbrev cJ5_putStringAt_47b60 : ByteArray := prog_13_method_73_code
def yJ5_putStringAt_47b60 : MethodName := ⟨RJ5, "putStringAt", "(ILjava/lang/String;)V"⟩
def RJx2cfe8 : String := "java/lang/Appendable"
def TJx2cfe8 : u_T := fun k => match k with
  | _ => ("", "", "", false)
def tyJx2cfe8 : Nat → FieldType := fun k => match k with
  | _ => .int
theorem nmJx2cfe8 : ∀ a, a < 0 → ∀ b, b < 0 → a ≠ b → (TJx2cfe8 a).2.1 ≠ (TJx2cfe8 b).2.1 := by decide +kernel
theorem tyJx2cfe8_ok : ∀ k, k < 0 → parseFieldDescriptor (TJx2cfe8 k).2.2.1 = some (tyJx2cfe8 k) := by decide +kernel
def RJx9f9b0 : String := "java/lang/CharSequence"
def TJx9f9b0 : u_T := fun k => match k with
  | _ => ("", "", "", false)
def tyJx9f9b0 : Nat → FieldType := fun k => match k with
  | _ => .int
theorem nmJx9f9b0 : ∀ a, a < 0 → ∀ b, b < 0 → a ≠ b → (TJx9f9b0 a).2.1 ≠ (TJx9f9b0 b).2.1 := by decide +kernel
theorem tyJx9f9b0_ok : ∀ k, k < 0 → parseFieldDescriptor (TJx9f9b0 k).2.2.1 = some (tyJx9f9b0 k) := by decide +kernel
def RJx8e188 : String := "java/lang/Cloneable"
def TJx8e188 : u_T := fun k => match k with
  | _ => ("", "", "", false)
def tyJx8e188 : Nat → FieldType := fun k => match k with
  | _ => .int
theorem nmJx8e188 : ∀ a, a < 0 → ∀ b, b < 0 → a ≠ b → (TJx8e188 a).2.1 ≠ (TJx8e188 b).2.1 := by decide +kernel
theorem tyJx8e188_ok : ∀ k, k < 0 → parseFieldDescriptor (TJx8e188 k).2.2.1 = some (tyJx8e188 k) := by decide +kernel
def RJxb160c : String := "java/lang/Comparable"
def TJxb160c : u_T := fun k => match k with
  | _ => ("", "", "", false)
def tyJxb160c : Nat → FieldType := fun k => match k with
  | _ => .int
theorem nmJxb160c : ∀ a, a < 0 → ∀ b, b < 0 → a ≠ b → (TJxb160c a).2.1 ≠ (TJxb160c b).2.1 := by decide +kernel
theorem tyJxb160c_ok : ∀ k, k < 0 → parseFieldDescriptor (TJxb160c k).2.2.1 = some (tyJxb160c k) := by decide +kernel
def RJ6 : String := "java/lang/Integer"
def TJ6 : u_T := fun k => match k with
  | _ => ("", "", "", false)
def tyJ6 : Nat → FieldType := fun k => match k with
  | _ => .int
theorem nmJ6 : ∀ a, a < 0 → ∀ b, b < 0 → a ≠ b → (TJ6 a).2.1 ≠ (TJ6 b).2.1 := by decide +kernel
theorem tyJ6_ok : ∀ k, k < 0 → parseFieldDescriptor (TJ6 k).2.2.1 = some (tyJ6 k) := by decide +kernel
abbrev cJ6_getChars_ba4f3 : ByteArray := prog_15_method_12_code
def yJ6_getChars_ba4f3 : MethodName := ⟨RJ6, "getChars", "(II[B)I"⟩
abbrev cJ6_stringSize_0f7a4 : ByteArray := prog_15_method_13_code
def yJ6_stringSize_0f7a4 : MethodName := ⟨RJ6, "stringSize", "(I)I"⟩
abbrev cJ6_bitCount_0f7a4 : ByteArray := prog_15_method_49_code
def yJ6_bitCount_0f7a4 : MethodName := ⟨RJ6, "bitCount", "(I)I"⟩
def RJ9 : String := "java/lang/Math"
def TJ9 : u_T := fun k => match k with
  | _ => ("", "", "", false)
def tyJ9 : Nat → FieldType := fun k => match k with
  | _ => .int
theorem nmJ9 : ∀ a, a < 0 → ∀ b, b < 0 → a ≠ b → (TJ9 a).2.1 ≠ (TJ9 b).2.1 := by decide +kernel
theorem tyJ9_ok : ∀ k, k < 0 → parseFieldDescriptor (TJ9 k).2.2.1 = some (tyJ9 k) := by decide +kernel
abbrev cJ9_max_7cf53 : ByteArray := prog_16_method_65_code
def yJ9_max_7cf53 : MethodName := ⟨RJ9, "max", "(II)I"⟩
abbrev cJ9_min_7cf53 : ByteArray := prog_16_method_69_code
def yJ9_min_7cf53 : MethodName := ⟨RJ9, "min", "(II)I"⟩
def RJxd2413 : String := "java/lang/Number"
def TJxd2413 : u_T := fun k => match k with
  | _ => ("", "", "", false)
def tyJxd2413 : Nat → FieldType := fun k => match k with
  | _ => .int
theorem nmJxd2413 : ∀ a, a < 0 → ∀ b, b < 0 → a ≠ b → (TJxd2413 a).2.1 ≠ (TJxd2413 b).2.1 := by decide +kernel
theorem tyJxd2413_ok : ∀ k, k < 0 → parseFieldDescriptor (TJxd2413 k).2.2.1 = some (tyJxd2413 k) := by decide +kernel
def RJ0 : String := "java/lang/String"
def TJ0 : u_T := fun k => match k with
  | 0 => ("java/lang/String", "value", "[B", true)
  | 1 => ("java/lang/String", "coder", "B", true)
  | 2 => ("java/lang/String", "hash", "I", false)
  | _ => ("java/lang/String", "hashIsZero", "Z", false)
def tyJ0 : Nat → FieldType := fun k => match k with
  | 0 => .array .byte
  | 1 => .byte
  | 2 => .int
  | _ => .boolean
theorem nmJ0 : ∀ a, a < 4 → ∀ b, b < 4 → a ≠ b → (TJ0 a).2.1 ≠ (TJ0 b).2.1 := by decide +kernel
theorem tyJ0_ok : ∀ k, k < 4 → parseFieldDescriptor (TJ0 k).2.2.1 = some (tyJ0 k) := by decide +kernel
abbrev cJ0_init_81219 : ByteArray := prog_18_method_53_code
def yJ0_init_81219 : MethodName := ⟨RJ0, "<init>", "(Ljava/lang/StringBuilder;)V"⟩
abbrev cJ0_length_8abf5 : ByteArray := prog_18_method_54_code
def yJ0_length_8abf5 : MethodName := ⟨RJ0, "length", "()I"⟩
abbrev cJ0_charAt_5068e : ByteArray := prog_18_method_56_code
def yJ0_charAt_5068e : MethodName := ⟨RJ0, "charAt", "(I)C"⟩
abbrev cJ0_equals_9ea2d : ByteArray := prog_18_method_66_code
def yJ0_equals_9ea2d : MethodName := ⟨RJ0, "equals", "(Ljava/lang/Object;)Z"⟩
abbrev cJ0_getBytes_840e7 : ByteArray := prog_18_method_147_code
def yJ0_getBytes_840e7 : MethodName := ⟨RJ0, "getBytes", "([BIB)V"⟩
abbrev cJ0_init_db425 : ByteArray := prog_18_method_150_code
def yJ0_init_db425 : MethodName := ⟨RJ0, "<init>", "(Ljava/lang/AbstractStringBuilder;Ljava/lang/Void;)V"⟩
abbrev cJ0_coder_7d493 : ByteArray := prog_18_method_152_code
def yJ0_coder_7d493 : MethodName := ⟨RJ0, "coder", "()B"⟩
abbrev cJ0_isLatin1_aae02 : ByteArray := prog_18_method_154_code
def yJ0_isLatin1_aae02 : MethodName := ⟨RJ0, "isLatin1", "()Z"⟩
abbrev cJ0_checkIndex_df160 : ByteArray := prog_18_method_155_code
def yJ0_checkIndex_df160 : MethodName := ⟨RJ0, "checkIndex", "(II)V"⟩
abbrev cJ0_checkBoundsOffCount_cabcc : ByteArray := prog_18_method_157_code
def yJ0_checkBoundsOffCount_cabcc : MethodName := ⟨RJ0, "checkBoundsOffCount", "(III)I"⟩
abbrev cJ0_checkBoundsBeginEnd_23922 : ByteArray := prog_18_method_158_code
def yJ0_checkBoundsBeginEnd_23922 : MethodName := ⟨RJ0, "checkBoundsBeginEnd", "(III)V"⟩
def RJ4 : String := "java/lang/StringBuilder"
def TJ4 : u_T := fun k => match k with
  | 0 => ("java/lang/AbstractStringBuilder", "value", "[B", false)
  | 1 => ("java/lang/AbstractStringBuilder", "coder", "B", false)
  | 2 => ("java/lang/AbstractStringBuilder", "maybeLatin1", "Z", false)
  | _ => ("java/lang/AbstractStringBuilder", "count", "I", false)
def tyJ4 : Nat → FieldType := fun k => match k with
  | 0 => .array .byte
  | 1 => .byte
  | 2 => .boolean
  | _ => .int
theorem nmJ4 : ∀ a, a < 4 → ∀ b, b < 4 → a ≠ b → (TJ4 a).2.1 ≠ (TJ4 b).2.1 := by decide +kernel
theorem tyJ4_ok : ∀ k, k < 4 → parseFieldDescriptor (TJ4 k).2.2.1 = some (tyJ4 k) := by decide +kernel
abbrev cJ4_init_da8c8 : ByteArray := prog_19_method_1_code
def yJ4_init_da8c8 : MethodName := ⟨RJ4, "<init>", "()V"⟩
abbrev cJ4_append_15ec4 : ByteArray := prog_19_method_7_code
def yJ4_append_15ec4 : MethodName := ⟨RJ4, "append", "(Ljava/lang/String;)Ljava/lang/StringBuilder;"⟩
abbrev cJ4_append_cf468 : ByteArray := prog_19_method_14_code
def yJ4_append_cf468 : MethodName := ⟨RJ4, "append", "(C)Ljava/lang/StringBuilder;"⟩
abbrev cJ4_append_bf812 : ByteArray := prog_19_method_15_code
def yJ4_append_bf812 : MethodName := ⟨RJ4, "append", "(I)Ljava/lang/StringBuilder;"⟩
abbrev cJ4_toString_0e30d : ByteArray := prog_19_method_42_code
def yJ4_toString_0e30d : MethodName := ⟨RJ4, "toString", "()Ljava/lang/String;"⟩
abbrev cJ4_length_8abf5 : ByteArray := prog_19_method_93_code
def yJ4_length_8abf5 : MethodName := ⟨RJ4, "length", "()I"⟩
def RJ1 : String := "java/lang/StringLatin1"
def TJ1 : u_T := fun k => match k with
  | _ => ("", "", "", false)
def tyJ1 : Nat → FieldType := fun k => match k with
  | _ => .int
theorem nmJ1 : ∀ a, a < 0 → ∀ b, b < 0 → a ≠ b → (TJ1 a).2.1 ≠ (TJ1 b).2.1 := by decide +kernel
theorem tyJ1_ok : ∀ k, k < 0 → parseFieldDescriptor (TJ1 k).2.2.1 = some (tyJ1 k) := by decide +kernel
abbrev cJ1_charAt_3b067 : ByteArray := prog_20_method_2_code
def yJ1_charAt_3b067 : MethodName := ⟨RJ1, "charAt", "([BI)C"⟩
abbrev cJ1_canEncode_fc78d : ByteArray := prog_20_method_3_code
def yJ1_canEncode_fc78d : MethodName := ⟨RJ1, "canEncode", "(C)Z"⟩
abbrev cJ1_equals_b5fdf : ByteArray := prog_20_method_13_code
def yJ1_equals_b5fdf : MethodName := ⟨RJ1, "equals", "([B[B)Z"⟩
abbrev cJ1_inflate_0e8fd : ByteArray := prog_20_method_50_code
def yJ1_inflate_0e8fd : MethodName := ⟨RJ1, "inflate", "([BI[BII)V"⟩
def RJ2 : String := "java/lang/StringUTF16"
def TJ2 : u_T := fun k => match k with
  | _ => ("", "", "", false)
def tyJ2 : Nat → FieldType := fun k => match k with
  | _ => .int
theorem nmJ2 : ∀ a, a < 0 → ∀ b, b < 0 → a ≠ b → (TJ2 a).2.1 ≠ (TJ2 b).2.1 := by decide +kernel
theorem tyJ2_ok : ∀ k, k < 0 → parseFieldDescriptor (TJ2 k).2.2.1 = some (tyJ2 k) := by decide +kernel
abbrev cJ2_newBytesFor_77867 : ByteArray := prog_21_method_2_code
def yJ2_newBytesFor_77867 : MethodName := ⟨RJ2, "newBytesFor", "(I)[B"⟩
abbrev cJ2_newBytesLength_0f7a4 : ByteArray := prog_21_method_3_code
def yJ2_newBytesLength_0f7a4 : MethodName := ⟨RJ2, "newBytesLength", "(I)I"⟩
abbrev cJ2_putChar_b72d1 : ByteArray := prog_21_method_4_code
def yJ2_putChar_b72d1 : MethodName := ⟨RJ2, "putChar", "([BII)V"⟩
abbrev cJ2_getChar_3b067 : ByteArray := prog_21_method_5_code
def yJ2_getChar_3b067 : MethodName := ⟨RJ2, "getChar", "([BI)C"⟩
abbrev cJ2_length_9d52b : ByteArray := prog_21_method_6_code
def yJ2_length_9d52b : MethodName := ⟨RJ2, "length", "([B)I"⟩
abbrev cJ2_coderFromArrayLen_85cad : ByteArray := prog_21_method_15_code
def yJ2_coderFromArrayLen_85cad : MethodName := ⟨RJ2, "coderFromArrayLen", "([BI)B"⟩
abbrev cJ2_compress_39247 : ByteArray := prog_21_method_17_code
def yJ2_compress_39247 : MethodName := ⟨RJ2, "compress", "([BII)[B"⟩
abbrev cJ2_compress_5af95 : ByteArray := prog_21_method_22_code
def yJ2_compress_5af95 : MethodName := ⟨RJ2, "compress", "([BI[BII)I"⟩
abbrev cJ2_putCharSB_b72d1 : ByteArray := prog_21_method_71_code
def yJ2_putCharSB_b72d1 : MethodName := ⟨RJ2, "putCharSB", "([BII)V"⟩
abbrev cJ2_getChars_46870 : ByteArray := prog_21_method_77_code
def yJ2_getChars_46870 : MethodName := ⟨RJ2, "getChars", "(III[B)I"⟩
abbrev cJ2_putCharsAt_cd4e5 : ByteArray := prog_21_method_81_code
def yJ2_putCharsAt_cd4e5 : MethodName := ⟨RJ2, "putCharsAt", "([BICCCC)I"⟩
abbrev cJ2_charAt_3b067 : ByteArray := prog_21_method_83_code
def yJ2_charAt_3b067 : MethodName := ⟨RJ2, "charAt", "([BI)C"⟩
abbrev cJ2_inflate_0e8fd : ByteArray := prog_21_method_86_code
def yJ2_inflate_0e8fd : MethodName := ⟨RJ2, "inflate", "([BI[BII)V"⟩
abbrev cJ2_getChars_ba4f3 : ByteArray := prog_21_method_89_code
def yJ2_getChars_ba4f3 : MethodName := ⟨RJ2, "getChars", "(II[B)I"⟩
abbrev cJ2_checkIndex_2214a : ByteArray := prog_21_method_91_code
def yJ2_checkIndex_2214a : MethodName := ⟨RJ2, "checkIndex", "(I[B)V"⟩
abbrev cJ2_checkBoundsBeginEnd_d044e : ByteArray := prog_21_method_93_code
def yJ2_checkBoundsBeginEnd_d044e : MethodName := ⟨RJ2, "checkBoundsBeginEnd", "(II[B)V"⟩
abbrev cJ2_checkBoundsOffCount_d044e : ByteArray := prog_21_method_94_code
def yJ2_checkBoundsOffCount_d044e : MethodName := ⟨RJ2, "checkBoundsOffCount", "(II[B)V"⟩
def RJ10 : String := "java/lang/System"
def TJ10 : u_T := fun k => match k with
  | _ => ("", "", "", false)
def tyJ10 : Nat → FieldType := fun k => match k with
  | _ => .int
theorem nmJ10 : ∀ a, a < 0 → ∀ b, b < 0 → a ≠ b → (TJ10 a).2.1 ≠ (TJ10 b).2.1 := by decide +kernel
theorem tyJ10_ok : ∀ k, k < 0 → parseFieldDescriptor (TJ10 k).2.2.1 = some (tyJ10 k) := by decide +kernel
def RJxfd54e : String := "java/lang/constant/Constable"
def TJxfd54e : u_T := fun k => match k with
  | _ => ("", "", "", false)
def tyJxfd54e : Nat → FieldType := fun k => match k with
  | _ => .int
theorem nmJxfd54e : ∀ a, a < 0 → ∀ b, b < 0 → a ≠ b → (TJxfd54e a).2.1 ≠ (TJxfd54e b).2.1 := by decide +kernel
theorem tyJxfd54e_ok : ∀ k, k < 0 → parseFieldDescriptor (TJxfd54e k).2.2.1 = some (tyJxfd54e k) := by decide +kernel
def RJx3cf43 : String := "java/lang/constant/ConstantDesc"
def TJx3cf43 : u_T := fun k => match k with
  | _ => ("", "", "", false)
def tyJx3cf43 : Nat → FieldType := fun k => match k with
  | _ => .int
theorem nmJx3cf43 : ∀ a, a < 0 → ∀ b, b < 0 → a ≠ b → (TJx3cf43 a).2.1 ≠ (TJx3cf43 b).2.1 := by decide +kernel
theorem tyJx3cf43_ok : ∀ k, k < 0 → parseFieldDescriptor (TJx3cf43 k).2.2.1 = some (tyJx3cf43 k) := by decide +kernel
def RJ7 : String := "java/util/Arrays"
def TJ7 : u_T := fun k => match k with
  | _ => ("", "", "", false)
def tyJ7 : Nat → FieldType := fun k => match k with
  | _ => .int
theorem nmJ7 : ∀ a, a < 0 → ∀ b, b < 0 → a ≠ b → (TJ7 a).2.1 ≠ (TJ7 b).2.1 := by decide +kernel
theorem tyJ7_ok : ∀ k, k < 0 → parseFieldDescriptor (TJ7 k).2.2.1 = some (tyJ7 k) := by decide +kernel
abbrev cJ7_fill_53178 : ByteArray := prog_23_method_103_code
def yJ7_fill_53178 : MethodName := ⟨RJ7, "fill", "([II)V"⟩
abbrev cJ7_copyOf_9075b : ByteArray := prog_23_method_121_code
def yJ7_copyOf_9075b : MethodName := ⟨RJ7, "copyOf", "([BI)[B"⟩
abbrev cJ7_checkLength_df160 : ByteArray := prog_23_method_131_code
def yJ7_checkLength_df160 : MethodName := ⟨RJ7, "checkLength", "(II)V"⟩
abbrev cJ7_copyOfRange_39247 : ByteArray := prog_23_method_132_code
def yJ7_copyOfRange_39247 : MethodName := ⟨RJ7, "copyOfRange", "([BII)[B"⟩
abbrev cJ7_copyOfRangeByte_39247 : ByteArray := prog_23_method_133_code
def yJ7_copyOfRangeByte_39247 : MethodName := ⟨RJ7, "copyOfRangeByte", "([BII)[B"⟩
def RJ8 : String := "jdk/internal/util/ArraysSupport"
def TJ8 : u_T := fun k => match k with
  | _ => ("", "", "", false)
def tyJ8 : Nat → FieldType := fun k => match k with
  | _ => .int
theorem nmJ8 : ∀ a, a < 0 → ∀ b, b < 0 → a ≠ b → (TJ8 a).2.1 ≠ (TJ8 b).2.1 := by decide +kernel
theorem tyJ8_ok : ∀ k, k < 0 → parseFieldDescriptor (TJ8 k).2.2.1 = some (tyJ8 k) := by decide +kernel
abbrev cJ8_newLength_cabcc : ByteArray := prog_24_method_27_code
def yJ8_newLength_cabcc : MethodName := ⟨RJ8, "newLength", "(III)I"⟩
abbrev cJ8_hugeLength_7cf53 : ByteArray := prog_24_method_28_code
def yJ8_hugeLength_7cf53 : MethodName := ⟨RJ8, "hugeLength", "(II)I"⟩
def RJ3 : String := "jdk/internal/util/Preconditions"
def TJ3 : u_T := fun k => match k with
  | _ => ("", "", "", false)
def tyJ3 : Nat → FieldType := fun k => match k with
  | _ => .int
theorem nmJ3 : ∀ a, a < 0 → ∀ b, b < 0 → a ≠ b → (TJ3 a).2.1 ≠ (TJ3 b).2.1 := by decide +kernel
theorem tyJ3_ok : ∀ k, k < 0 → parseFieldDescriptor (TJ3 k).2.2.1 = some (tyJ3 k) := by decide +kernel
abbrev cJ3_checkIndex_8e157 : ByteArray := prog_25_method_11_code
def yJ3_checkIndex_8e157 : MethodName := ⟨RJ3, "checkIndex", "(IILjava/util/function/BiFunction;)I"⟩
abbrev cJ3_checkFromToIndex_8c36e : ByteArray := prog_25_method_12_code
def yJ3_checkFromToIndex_8c36e : MethodName := ⟨RJ3, "checkFromToIndex", "(IIILjava/util/function/BiFunction;)I"⟩
abbrev cJ3_checkFromIndexSize_8c36e : ByteArray := prog_25_method_13_code
def yJ3_checkFromIndexSize_8c36e : MethodName := ⟨RJ3, "checkFromIndexSize", "(IIILjava/util/function/BiFunction;)I"⟩
def RL : String := "StairsNearLaw"
abbrev cL_cell : ByteArray := method_2_code
def yL_cell : MethodName := ⟨RL, "cell", "([II)I"⟩
abbrev cL_between : ByteArray := method_3_code
def yL_between : MethodName := ⟨RL, "between", "(III)I"⟩
abbrev cL_poly : ByteArray := method_4_code
def yL_poly : MethodName := ⟨RL, "poly", "(LStairsNear;ILjava/lang/String;)I"⟩
abbrev cL_said : ByteArray := method_5_code
def yL_said : MethodName := ⟨RL, "said", "(LStairsNear;I)Ljava/lang/String;"⟩
abbrev cL_drawn : ByteArray := method_6_code
def yL_drawn : MethodName := ⟨RL, "drawn", "(IIIII)Ljava/lang/String;"⟩
abbrev cL_law : ByteArray := code
def yL_law : MethodName := ⟨RL, "law", "([I)Z"⟩
abbrev cL_isStepped : ByteArray := method_8_code
def yL_isStepped : MethodName := ⟨RL, "isStepped", "(LStairsNear;I)Z"⟩
abbrev cL_isWhole : ByteArray := method_9_code
def yL_isWhole : MethodName := ⟨RL, "isWhole", "(LStairsNear;I)Z"⟩
abbrev cL_isLeft : ByteArray := method_10_code
def yL_isLeft : MethodName := ⟨RL, "isLeft", "(LStairsNear;I)Z"⟩
abbrev cL_isRest : ByteArray := method_11_code
def yL_isRest : MethodName := ⟨RL, "isRest", "(LStairsNear;II)Z"⟩
abbrev vwCl : List vw_C := [(RX0, TX0, 9), (RX1, TX1, 3), (RX2, TX2, 4), (RX4, TX4, 1), (RX5, TX5, 3), (RX6, TX6, 7), (RX7, TX7, 8), (RX8, TX8, 2), (RX9, TX9, 11), (RJ0, TJ0, 4), (RJ4, TJ4, 4)]
