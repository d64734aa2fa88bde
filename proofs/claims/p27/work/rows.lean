section
-- ===== PART A: goes FIRST, ahead of the names: the tables' words, and 'selects' of the private methods out of them =====
/-- a private method of a class that the tables say can be made, by its rows of tables_1 -/
def lw_okq (q : MethodName × Nat) : Prop := (q.1.cls ≠ "java/lang/invoke/MethodHandle" ∧ q.1.cls ≠ "java/lang/invoke/VarHandle") ∧ Cond.instantiable q.1.cls q.2 ∈ tables_1 ∧ Cond.privateMethod q.1 ∈ tables_1 ∧ Cond.instanceMethod q.1 ∈ tables_1
theorem lw_p0 : lw_okq (⟨"StairsNear$Ring", "listDegree", "(I)V"⟩, 7) := ⟨⟨by decide +kernel, by decide +kernel⟩, List.mem_of_getElem? (i := 32) (by decide +kernel), List.mem_of_getElem? (i := 62) (by decide +kernel), List.mem_of_getElem? (i := 63) (by decide +kernel)⟩
theorem lw_p1 : lw_okq (⟨"StairsNear$Ring", "linkProducts", "(I)V"⟩, 7) := ⟨⟨by decide +kernel, by decide +kernel⟩, List.mem_of_getElem? (i := 32) (by decide +kernel), List.mem_of_getElem? (i := 77) (by decide +kernel), List.mem_of_getElem? (i := 78) (by decide +kernel)⟩
theorem lw_p2 : lw_okq (⟨"StairsNear", "forgetWhatWasWorkedOut", "()V"⟩, 11) := ⟨⟨by decide +kernel, by decide +kernel⟩, List.mem_of_getElem? (i := 24) (by decide +kernel), List.mem_of_getElem? (i := 351) (by decide +kernel), List.mem_of_getElem? (i := 352) (by decide +kernel)⟩
theorem lw_p3 : lw_okq (⟨"StairsNear$Poly", "insert", "(III)V"⟩, 3) := ⟨⟨by decide +kernel, by decide +kernel⟩, List.mem_of_getElem? (i := 139) (by decide +kernel), List.mem_of_getElem? (i := 378) (by decide +kernel), List.mem_of_getElem? (i := 379) (by decide +kernel)⟩
theorem lw_p4 : lw_okq (⟨"StairsNear", "held", "(I)I"⟩, 11) := ⟨⟨by decide +kernel, by decide +kernel⟩, List.mem_of_getElem? (i := 24) (by decide +kernel), List.mem_of_getElem? (i := 420) (by decide +kernel), List.mem_of_getElem? (i := 421) (by decide +kernel)⟩
theorem lw_p5 : lw_okq (⟨"StairsNear$Division", "begin", "([LStairsNear$Poly;IILStairsNear$Numbers;)V"⟩, 9) := ⟨⟨by decide +kernel, by decide +kernel⟩, List.mem_of_getElem? (i := 220) (by decide +kernel), List.mem_of_getElem? (i := 428) (by decide +kernel), List.mem_of_getElem? (i := 429) (by decide +kernel)⟩
theorem lw_p6 : lw_okq (⟨"StairsNear$Division", "bestDivisor", "()I"⟩, 9) := ⟨⟨by decide +kernel, by decide +kernel⟩, List.mem_of_getElem? (i := 220) (by decide +kernel), List.mem_of_getElem? (i := 462) (by decide +kernel), List.mem_of_getElem? (i := 463) (by decide +kernel)⟩
theorem lw_p7 : lw_okq (⟨"StairsNear$Division", "stepBy", "(ILStairsNear$Numbers;)Z"⟩, 9) := ⟨⟨by decide +kernel, by decide +kernel⟩, List.mem_of_getElem? (i := 220) (by decide +kernel), List.mem_of_getElem? (i := 471) (by decide +kernel), List.mem_of_getElem? (i := 472) (by decide +kernel)⟩
theorem lw_p8 : lw_okq (⟨"StairsNear$Division", "subtract", "(LStairsNear$Equation;LStairsNear$Numbers;)Z"⟩, 9) := ⟨⟨by decide +kernel, by decide +kernel⟩, List.mem_of_getElem? (i := 220) (by decide +kernel), List.mem_of_getElem? (i := 480) (by decide +kernel), List.mem_of_getElem? (i := 481) (by decide +kernel)⟩
theorem lw_p9 : lw_okq (⟨"StairsNear", "putSpare", "(I)I"⟩, 11) := ⟨⟨by decide +kernel, by decide +kernel⟩, List.mem_of_getElem? (i := 24) (by decide +kernel), List.mem_of_getElem? (i := 515) (by decide +kernel), List.mem_of_getElem? (i := 516) (by decide +kernel)⟩
theorem lw_p10 : lw_okq (⟨"StairsNear$Tape", "ahead", "()I"⟩, 8) := ⟨⟨by decide +kernel, by decide +kernel⟩, List.mem_of_getElem? (i := 169) (by decide +kernel), List.mem_of_getElem? (i := 620) (by decide +kernel), List.mem_of_getElem? (i := 621) (by decide +kernel)⟩
theorem lw_p11 : lw_okq (⟨"StairsNear$Tape", "readSummand", "(ZLStairsNear$Ring;)V"⟩, 8) := ⟨⟨by decide +kernel, by decide +kernel⟩, List.mem_of_getElem? (i := 169) (by decide +kernel), List.mem_of_getElem? (i := 624) (by decide +kernel), List.mem_of_getElem? (i := 625) (by decide +kernel)⟩
theorem lw_p12 : lw_okq (⟨"StairsNear$Tape", "factorIsAhead", "(LStairsNear$Ring;)Z"⟩, 8) := ⟨⟨by decide +kernel, by decide +kernel⟩, List.mem_of_getElem? (i := 169) (by decide +kernel), List.mem_of_getElem? (i := 631) (by decide +kernel), List.mem_of_getElem? (i := 632) (by decide +kernel)⟩
theorem lw_p13 : lw_okq (⟨"StairsNear$Tape", "blame", "(II)V"⟩, 8) := ⟨⟨by decide +kernel, by decide +kernel⟩, List.mem_of_getElem? (i := 169) (by decide +kernel), List.mem_of_getElem? (i := 641) (by decide +kernel), List.mem_of_getElem? (i := 642) (by decide +kernel)⟩
theorem lw_p14 : lw_okq (⟨"StairsNear$Tape", "readFactor", "(LStairsNear$Ring;)V"⟩, 8) := ⟨⟨by decide +kernel, by decide +kernel⟩, List.mem_of_getElem? (i := 169) (by decide +kernel), List.mem_of_getElem? (i := 645) (by decide +kernel), List.mem_of_getElem? (i := 646) (by decide +kernel)⟩
theorem lw_p15 : lw_okq (⟨"StairsNear$Tape", "readDigits", "(I)I"⟩, 8) := ⟨⟨by decide +kernel, by decide +kernel⟩, List.mem_of_getElem? (i := 169) (by decide +kernel), List.mem_of_getElem? (i := 649) (by decide +kernel), List.mem_of_getElem? (i := 650) (by decide +kernel)⟩
def lw_privs_1 : List (MethodName × Nat) := [(⟨"StairsNear$Ring", "listDegree", "(I)V"⟩, 7), (⟨"StairsNear$Ring", "linkProducts", "(I)V"⟩, 7), (⟨"StairsNear", "forgetWhatWasWorkedOut", "()V"⟩, 11), (⟨"StairsNear$Poly", "insert", "(III)V"⟩, 3), (⟨"StairsNear", "held", "(I)I"⟩, 11), (⟨"StairsNear$Division", "begin", "([LStairsNear$Poly;IILStairsNear$Numbers;)V"⟩, 9), (⟨"StairsNear$Division", "bestDivisor", "()I"⟩, 9), (⟨"StairsNear$Division", "stepBy", "(ILStairsNear$Numbers;)Z"⟩, 9), (⟨"StairsNear$Division", "subtract", "(LStairsNear$Equation;LStairsNear$Numbers;)Z"⟩, 9), (⟨"StairsNear", "putSpare", "(I)I"⟩, 11), (⟨"StairsNear$Tape", "ahead", "()I"⟩, 8), (⟨"StairsNear$Tape", "readSummand", "(ZLStairsNear$Ring;)V"⟩, 8), (⟨"StairsNear$Tape", "factorIsAhead", "(LStairsNear$Ring;)Z"⟩, 8), (⟨"StairsNear$Tape", "blame", "(II)V"⟩, 8), (⟨"StairsNear$Tape", "readFactor", "(LStairsNear$Ring;)V"⟩, 8), (⟨"StairsNear$Tape", "readDigits", "(I)I"⟩, 8)]
theorem lw_r1 : ∀ q ∈ lw_privs_1, lw_okq q := List.forall_mem_cons.mpr ⟨lw_p0, List.forall_mem_cons.mpr ⟨lw_p1, List.forall_mem_cons.mpr ⟨lw_p2, List.forall_mem_cons.mpr ⟨lw_p3, List.forall_mem_cons.mpr ⟨lw_p4, List.forall_mem_cons.mpr ⟨lw_p5, List.forall_mem_cons.mpr ⟨lw_p6, List.forall_mem_cons.mpr ⟨lw_p7, List.forall_mem_cons.mpr ⟨lw_p8, List.forall_mem_cons.mpr ⟨lw_p9, List.forall_mem_cons.mpr ⟨lw_p10, List.forall_mem_cons.mpr ⟨lw_p11, List.forall_mem_cons.mpr ⟨lw_p12, List.forall_mem_cons.mpr ⟨lw_p13, List.forall_mem_cons.mpr ⟨lw_p14, List.forall_mem_cons.mpr ⟨lw_p15, fun _ h => absurd h List.not_mem_nil⟩⟩⟩⟩⟩⟩⟩⟩⟩⟩⟩⟩⟩⟩⟩⟩
theorem lw_p16 : lw_okq (⟨"StairsNear$Tape", "readPower", "(I)V"⟩, 8) := ⟨⟨by decide +kernel, by decide +kernel⟩, List.mem_of_getElem? (i := 169) (by decide +kernel), List.mem_of_getElem? (i := 658) (by decide +kernel), List.mem_of_getElem? (i := 659) (by decide +kernel)⟩
theorem lw_p17 : lw_okq (⟨"StairsNear", "multiply", "(LStairsNear$Poly;LStairsNear$Poly;)Z"⟩, 11) := ⟨⟨by decide +kernel, by decide +kernel⟩, List.mem_of_getElem? (i := 24) (by decide +kernel), List.mem_of_getElem? (i := 905) (by decide +kernel), List.mem_of_getElem? (i := 906) (by decide +kernel)⟩
theorem lw_p18 : lw_okq (⟨"StairsNear", "isBound", "(I)Z"⟩, 11) := ⟨⟨by decide +kernel, by decide +kernel⟩, List.mem_of_getElem? (i := 24) (by decide +kernel), List.mem_of_getElem? (i := 919) (by decide +kernel), List.mem_of_getElem? (i := 920) (by decide +kernel)⟩
theorem lw_p19 : lw_okq (⟨"StairsNear", "idealOf", "(I)LStairsNear$Ideal;"⟩, 11) := ⟨⟨by decide +kernel, by decide +kernel⟩, List.mem_of_getElem? (i := 24) (by decide +kernel), List.mem_of_getElem? (i := 923) (by decide +kernel), List.mem_of_getElem? (i := 924) (by decide +kernel)⟩
theorem lw_p20 : lw_okq (⟨"StairsNear", "oldestIdeal", "()LStairsNear$Ideal;"⟩, 11) := ⟨⟨by decide +kernel, by decide +kernel⟩, List.mem_of_getElem? (i := 24) (by decide +kernel), List.mem_of_getElem? (i := 927) (by decide +kernel), List.mem_of_getElem? (i := 928) (by decide +kernel)⟩
theorem lw_p21 : lw_okq (⟨"StairsNear$Ideal", "load", "(LStairsNear$Poly;LStairsNear$Ring;)V"⟩, 4) := ⟨⟨by decide +kernel, by decide +kernel⟩, List.mem_of_getElem? (i := 282) (by decide +kernel), List.mem_of_getElem? (i := 938) (by decide +kernel), List.mem_of_getElem? (i := 939) (by decide +kernel)⟩
theorem lw_p22 : lw_okq (⟨"StairsNear$Ideal", "insertLine", "(ILStairsNear$Numbers;)V"⟩, 4) := ⟨⟨by decide +kernel, by decide +kernel⟩, List.mem_of_getElem? (i := 282) (by decide +kernel), List.mem_of_getElem? (i := 943) (by decide +kernel), List.mem_of_getElem? (i := 944) (by decide +kernel)⟩
theorem lw_p23 : lw_okq (⟨"StairsNear$Ideal", "storeRow", "(IILStairsNear$Numbers;)V"⟩, 4) := ⟨⟨by decide +kernel, by decide +kernel⟩, List.mem_of_getElem? (i := 282) (by decide +kernel), List.mem_of_getElem? (i := 947) (by decide +kernel), List.mem_of_getElem? (i := 948) (by decide +kernel)⟩
theorem lw_p24 : lw_okq (⟨"StairsNear$Ideal", "subtractRow", "(IILStairsNear$Numbers;)V"⟩, 4) := ⟨⟨by decide +kernel, by decide +kernel⟩, List.mem_of_getElem? (i := 282) (by decide +kernel), List.mem_of_getElem? (i := 953) (by decide +kernel), List.mem_of_getElem? (i := 954) (by decide +kernel)⟩
theorem lw_p25 : lw_okq (⟨"StairsNear$Ideal", "loadProduct", "([I[II)V"⟩, 4) := ⟨⟨by decide +kernel, by decide +kernel⟩, List.mem_of_getElem? (i := 282) (by decide +kernel), List.mem_of_getElem? (i := 959) (by decide +kernel), List.mem_of_getElem? (i := 960) (by decide +kernel)⟩
theorem lw_p26 : lw_okq (⟨"StairsNear$Ideal", "markNoCorner", "(I)V"⟩, 4) := ⟨⟨by decide +kernel, by decide +kernel⟩, List.mem_of_getElem? (i := 282) (by decide +kernel), List.mem_of_getElem? (i := 963) (by decide +kernel), List.mem_of_getElem? (i := 964) (by decide +kernel)⟩
theorem lw_p27 : lw_okq (⟨"StairsNear$Text", "put", "(I)V"⟩, 2) := ⟨⟨by decide +kernel, by decide +kernel⟩, List.mem_of_getElem? (i := 205) (by decide +kernel), List.mem_of_getElem? (i := 984) (by decide +kernel), List.mem_of_getElem? (i := 985) (by decide +kernel)⟩
theorem lw_p28 : lw_okq (⟨"StairsNear$Text", "putNumber", "(I)V"⟩, 2) := ⟨⟨by decide +kernel, by decide +kernel⟩, List.mem_of_getElem? (i := 205) (by decide +kernel), List.mem_of_getElem? (i := 989) (by decide +kernel), List.mem_of_getElem? (i := 990) (by decide +kernel)⟩
theorem lw_p29 : lw_okq (⟨"StairsNear$Text", "putPower", "(II)V"⟩, 2) := ⟨⟨by decide +kernel, by decide +kernel⟩, List.mem_of_getElem? (i := 205) (by decide +kernel), List.mem_of_getElem? (i := 994) (by decide +kernel), List.mem_of_getElem? (i := 995) (by decide +kernel)⟩
theorem lw_p30 : lw_okq (⟨"StairsNear$Ideal", "isOf", "(II)Z"⟩, 4) := ⟨⟨by decide +kernel, by decide +kernel⟩, List.mem_of_getElem? (i := 282) (by decide +kernel), List.mem_of_getElem? (i := 1032) (by decide +kernel), List.mem_of_getElem? (i := 1033) (by decide +kernel)⟩
def lw_privs_2 : List (MethodName × Nat) := [(⟨"StairsNear$Tape", "readPower", "(I)V"⟩, 8), (⟨"StairsNear", "multiply", "(LStairsNear$Poly;LStairsNear$Poly;)Z"⟩, 11), (⟨"StairsNear", "isBound", "(I)Z"⟩, 11), (⟨"StairsNear", "idealOf", "(I)LStairsNear$Ideal;"⟩, 11), (⟨"StairsNear", "oldestIdeal", "()LStairsNear$Ideal;"⟩, 11), (⟨"StairsNear$Ideal", "load", "(LStairsNear$Poly;LStairsNear$Ring;)V"⟩, 4), (⟨"StairsNear$Ideal", "insertLine", "(ILStairsNear$Numbers;)V"⟩, 4), (⟨"StairsNear$Ideal", "storeRow", "(IILStairsNear$Numbers;)V"⟩, 4), (⟨"StairsNear$Ideal", "subtractRow", "(IILStairsNear$Numbers;)V"⟩, 4), (⟨"StairsNear$Ideal", "loadProduct", "([I[II)V"⟩, 4), (⟨"StairsNear$Ideal", "markNoCorner", "(I)V"⟩, 4), (⟨"StairsNear$Text", "put", "(I)V"⟩, 2), (⟨"StairsNear$Text", "putNumber", "(I)V"⟩, 2), (⟨"StairsNear$Text", "putPower", "(II)V"⟩, 2), (⟨"StairsNear$Ideal", "isOf", "(II)Z"⟩, 4)]
theorem lw_r2 : ∀ q ∈ lw_privs_2, lw_okq q := List.forall_mem_cons.mpr ⟨lw_p16, List.forall_mem_cons.mpr ⟨lw_p17, List.forall_mem_cons.mpr ⟨lw_p18, List.forall_mem_cons.mpr ⟨lw_p19, List.forall_mem_cons.mpr ⟨lw_p20, List.forall_mem_cons.mpr ⟨lw_p21, List.forall_mem_cons.mpr ⟨lw_p22, List.forall_mem_cons.mpr ⟨lw_p23, List.forall_mem_cons.mpr ⟨lw_p24, List.forall_mem_cons.mpr ⟨lw_p25, List.forall_mem_cons.mpr ⟨lw_p26, List.forall_mem_cons.mpr ⟨lw_p27, List.forall_mem_cons.mpr ⟨lw_p28, List.forall_mem_cons.mpr ⟨lw_p29, List.forall_mem_cons.mpr ⟨lw_p30, fun _ h => absurd h List.not_mem_nil⟩⟩⟩⟩⟩⟩⟩⟩⟩⟩⟩⟩⟩⟩⟩
def lw_privs : List (MethodName × Nat) := lw_privs_1 ++ (lw_privs_2)
def lw_tbl : List Cond := k2_sels lw_privs ++ tables_1
theorem lw_privs_ok : ∀ q ∈ lw_privs, lw_okq q := by
  show ∀ q ∈ lw_privs_1 ++ (lw_privs_2), lw_okq q
  exact List.forall_mem_append.mpr ⟨lw_r1, lw_r2⟩

-- names, printed by the kit's program out of the class files
/-! ===== BEGIN words of one list among another's, by their places ===== -/
theorem goodIn_r {big : List Cond} (ws : List Cond) (ps : List Nat) (hp : ws = ps.filterMap (fun i => big[i]?)) (h : ws.all goodWord = true) : GoodIn big ws := by
  intro w hw
  have h1 := List.all_eq_true.mp h w hw
  rw [hp] at hw
  obtain ⟨i, -, hi⟩ := List.mem_filterMap.mp hw
  have hm : w ∈ big := by first | exact List.mem_of_getElem? hi | exact List.getElem?_mem hi
  exact ⟨hm, good_of_word h1⟩
theorem goodIn_app {big a b : List Cond} (ha : GoodIn big a) (hb : GoodIn big b) : GoodIn big (a ++ b) := fun w h => (List.mem_append.mp h).elim (ha w) (hb w)
theorem goodIn_ca {big a b : List Cond} {c : Cond} (ha : GoodIn big (c :: a)) (hb : GoodIn big b) : GoodIn big (c :: (a ++ b)) := fun w h => (List.mem_cons.mp h).elim (fun e => ha w (List.mem_cons.mpr (Or.inl e))) (fun h => (List.mem_append.mp h).elim (fun h => ha w (List.mem_cons.mpr (Or.inr h))) (hb w))
theorem goodIn_sub {big ws : List Cond} (hm : ∀ w ∈ ws, w ∈ big) (h : ws.all goodWord = true) : GoodIn big ws := fun w hw => ⟨hm w hw, good_of_word (List.all_eq_true.mp h w hw)⟩
/-! ===== END ===== -/
def RX0 : String := "StairsNear$Division"
def TX0 : u_T := fun k => match k with
  | 0 => ("StairsNear$Division", "stands", "Z", false)
  | 1 => ("StairsNear$Division", "set", "I", false)
  | 2 => ("StairsNear$Division", "slot", "I", false)
  | 3 => ("StairsNear$Division", "steps", "I", false)
  | 4 => ("StairsNear$Division", "divisors", "I", false)
  | 5 => ("StairsNear$Division", "equations", "[LStairsNear$Equation;", true)
  | 6 => ("StairsNear$Division", "told", "[[I", true)
  | 7 => ("StairsNear$Division", "now", "LStairsNear$Equation;", false)
  | _ => ("StairsNear$Division", "after", "LStairsNear$Equation;", false)
def tyX0 : Nat → FieldType := fun k => match k with
  | 0 => .boolean
  | 1 => .int
  | 2 => .int
  | 3 => .int
  | 4 => .int
  | 5 => .array (.object "StairsNear$Equation")
  | 6 => .array (.array .int)
  | 7 => .object "StairsNear$Equation"
  | _ => .object "StairsNear$Equation"
abbrev wsX00 : List Cond := u_ws RX0 TX0 9
theorem nmX0 : ∀ a, a < 9 → ∀ b, b < 9 → a ≠ b → (TX0 a).2.1 ≠ (TX0 b).2.1 := by decide +kernel
theorem tyX0_ok : ∀ k, k < 9 → parseFieldDescriptor (TX0 k).2.2.1 = some (tyX0 k) := by decide +kernel
abbrev cX0_init : ByteArray := prog_2_method_1_code
def yX0_init : MethodName := ⟨RX0, "<init>", "()V"⟩
abbrev cX0_divide : ByteArray := prog_2_method_2_code
def yX0_divide : MethodName := ⟨RX0, "divide", "([LStairsNear$Poly;IILStairsNear$Numbers;)I"⟩
abbrev cX0_keptOne : ByteArray := prog_2_method_3_code
def yX0_keptOne : MethodName := ⟨RX0, "keptOne", "(I)LStairsNear$Poly;"⟩
abbrev cX0_tellStep : ByteArray := prog_2_method_4_code
def yX0_tellStep : MethodName := ⟨RX0, "tellStep", "(II)I"⟩
abbrev cX0_tellWhole : ByteArray := prog_2_method_5_code
def yX0_tellWhole : MethodName := ⟨RX0, "tellWhole", "(I)I"⟩
abbrev cX0_begin : ByteArray := prog_2_method_6_code
def yX0_begin : MethodName := ⟨RX0, "begin", "([LStairsNear$Poly;IILStairsNear$Numbers;)V"⟩
abbrev cX0_bestDivisor : ByteArray := prog_2_method_7_code
def yX0_bestDivisor : MethodName := ⟨RX0, "bestDivisor", "()I"⟩
abbrev cX0_stepBy : ByteArray := prog_2_method_8_code
def yX0_stepBy : MethodName := ⟨RX0, "stepBy", "(ILStairsNear$Numbers;)Z"⟩
abbrev cX0_subtract : ByteArray := prog_2_method_9_code
def yX0_subtract : MethodName := ⟨RX0, "subtract", "(LStairsNear$Equation;LStairsNear$Numbers;)Z"⟩
def RX1 : String := "StairsNear$Equation"
def TX1 : u_T := fun k => match k with
  | 0 => ("StairsNear$Equation", "value", "LStairsNear$Poly;", true)
  | 1 => ("StairsNear$Equation", "unit", "LStairsNear$Poly;", true)
  | _ => ("StairsNear$Equation", "shares", "[LStairsNear$Poly;", true)
def tyX1 : Nat → FieldType := fun k => match k with
  | 0 => .object "StairsNear$Poly"
  | 1 => .object "StairsNear$Poly"
  | _ => .array (.object "StairsNear$Poly")
abbrev wsX10 : List Cond := u_ws RX1 TX1 3
theorem nmX1 : ∀ a, a < 3 → ∀ b, b < 3 → a ≠ b → (TX1 a).2.1 ≠ (TX1 b).2.1 := by decide +kernel
theorem tyX1_ok : ∀ k, k < 3 → parseFieldDescriptor (TX1 k).2.2.1 = some (tyX1 k) := by decide +kernel
abbrev cX1_init : ByteArray := prog_3_method_1_code
def yX1_init : MethodName := ⟨RX1, "<init>", "()V"⟩
abbrev cX1_begin : ByteArray := prog_3_method_2_code
def yX1_begin : MethodName := ⟨RX1, "begin", "(LStairsNear$Poly;)V"⟩
abbrev cX1_become : ByteArray := prog_3_method_3_code
def yX1_become : MethodName := ⟨RX1, "become", "(LStairsNear$Equation;)V"⟩
abbrev cX1_mix : ByteArray := prog_3_method_4_code
def yX1_mix : MethodName := ⟨RX1, "mix", "(LStairsNear$Equation;IILStairsNear$Equation;LStairsNear$Numbers;)Z"⟩
def RX2 : String := "StairsNear$Ideal"
def TX2 : u_T := fun k => match k with
  | 0 => ("StairsNear$Ideal", "set", "I", false)
  | 1 => ("StairsNear$Ideal", "rows", "[[I", true)
  | 2 => ("StairsNear$Ideal", "kinds", "[I", true)
  | _ => ("StairsNear$Ideal", "line", "[I", true)
def tyX2 : Nat → FieldType := fun k => match k with
  | 0 => .int
  | 1 => .array (.array .int)
  | 2 => .array .int
  | _ => .array .int
abbrev wsX20 : List Cond := u_ws RX2 TX2 4
theorem nmX2 : ∀ a, a < 4 → ∀ b, b < 4 → a ≠ b → (TX2 a).2.1 ≠ (TX2 b).2.1 := by decide +kernel
theorem tyX2_ok : ∀ k, k < 4 → parseFieldDescriptor (TX2 k).2.2.1 = some (tyX2 k) := by decide +kernel
abbrev cX2_init : ByteArray := prog_4_method_1_code
def yX2_init : MethodName := ⟨RX2, "<init>", "()V"⟩
abbrev cX2_build : ByteArray := prog_4_method_2_code
def yX2_build : MethodName := ⟨RX2, "build", "([LStairsNear$Poly;ILStairsNear$Ring;)V"⟩
abbrev cX2_count : ByteArray := prog_4_method_3_code
def yX2_count : MethodName := ⟨RX2, "count", "(III)I"⟩
abbrev cX2_leaveOver : ByteArray := prog_4_method_7_code
def yX2_leaveOver : MethodName := ⟨RX2, "leaveOver", "(LStairsNear$Poly;ILStairsNear$Poly;LStairsNear$Ring;)Z"⟩
abbrev cX2_isOf : ByteArray := prog_4_method_8_code
def yX2_isOf : MethodName := ⟨RX2, "isOf", "(II)Z"⟩
abbrev cX2_load : ByteArray := prog_4_method_9_code
def yX2_load : MethodName := ⟨RX2, "load", "(LStairsNear$Poly;LStairsNear$Ring;)V"⟩
abbrev cX2_loadProduct : ByteArray := prog_4_method_10_code
def yX2_loadProduct : MethodName := ⟨RX2, "loadProduct", "([I[II)V"⟩
abbrev cX2_insertLine : ByteArray := prog_4_method_11_code
def yX2_insertLine : MethodName := ⟨RX2, "insertLine", "(ILStairsNear$Numbers;)V"⟩
abbrev cX2_storeRow : ByteArray := prog_4_method_12_code
def yX2_storeRow : MethodName := ⟨RX2, "storeRow", "(IILStairsNear$Numbers;)V"⟩
abbrev cX2_subtractRow : ByteArray := prog_4_method_13_code
def yX2_subtractRow : MethodName := ⟨RX2, "subtractRow", "(IILStairsNear$Numbers;)V"⟩
abbrev cX2_markNoCorner : ByteArray := prog_4_method_14_code
def yX2_markNoCorner : MethodName := ⟨RX2, "markNoCorner", "(I)V"⟩
def RX3 : String := "StairsNear$Mono"
def TX3 : u_T := fun k => match k with
  | _ => ("", "", "", false)
def tyX3 : Nat → FieldType := fun k => match k with
  | _ => .int
abbrev wsX30 : List Cond := u_ws RX3 TX3 0
theorem nmX3 : ∀ a, a < 0 → ∀ b, b < 0 → a ≠ b → (TX3 a).2.1 ≠ (TX3 b).2.1 := by decide +kernel
theorem tyX3_ok : ∀ k, k < 0 → parseFieldDescriptor (TX3 k).2.2.1 = some (tyX3 k) := by decide +kernel
abbrev cX3_degree : ByteArray := prog_5_method_2_code
def yX3_degree : MethodName := ⟨RX3, "degree", "(I)I"⟩
abbrev cX3_exponent : ByteArray := prog_5_method_3_code
def yX3_exponent : MethodName := ⟨RX3, "exponent", "(II)I"⟩
abbrev cX3_of : ByteArray := prog_5_method_4_code
def yX3_of : MethodName := ⟨RX3, "of", "(IIII)I"⟩
abbrev cX3_times : ByteArray := prog_5_method_5_code
def yX3_times : MethodName := ⟨RX3, "times", "(II)I"⟩
abbrev cX3_by : ByteArray := prog_5_method_6_code
def yX3_by : MethodName := ⟨RX3, "by", "(II)I"⟩
abbrev cX3_divides : ByteArray := prog_5_method_7_code
def yX3_divides : MethodName := ⟨RX3, "divides", "(II)Z"⟩
abbrev cX3_isTooHigh : ByteArray := prog_5_method_8_code
def yX3_isTooHigh : MethodName := ⟨RX3, "isTooHigh", "(I)Z"⟩
def RX4 : String := "StairsNear$Numbers"
def TX4 : u_T := fun k => match k with
  | _ => ("StairsNear$Numbers", "prime", "I", true)
def tyX4 : Nat → FieldType := fun k => match k with
  | _ => .int
abbrev wsX40 : List Cond := u_ws RX4 TX4 1
theorem nmX4 : ∀ a, a < 1 → ∀ b, b < 1 → a ≠ b → (TX4 a).2.1 ≠ (TX4 b).2.1 := by decide +kernel
theorem tyX4_ok : ∀ k, k < 1 → parseFieldDescriptor (TX4 k).2.2.1 = some (tyX4 k) := by decide +kernel
abbrev cX4_init : ByteArray := prog_6_method_1_code
def yX4_init : MethodName := ⟨RX4, "<init>", "(I)V"⟩
abbrev cX4_reduced : ByteArray := prog_6_method_2_code
def yX4_reduced : MethodName := ⟨RX4, "reduced", "(I)I"⟩
abbrev cX4_negative : ByteArray := prog_6_method_3_code
def yX4_negative : MethodName := ⟨RX4, "negative", "(I)I"⟩
abbrev cX4_times : ByteArray := prog_6_method_4_code
def yX4_times : MethodName := ⟨RX4, "times", "(II)I"⟩
abbrev cX4_plusTimes : ByteArray := prog_6_method_5_code
def yX4_plusTimes : MethodName := ⟨RX4, "plusTimes", "(III)I"⟩
abbrev cX4_inverse : ByteArray := prog_6_method_6_code
def yX4_inverse : MethodName := ⟨RX4, "inverse", "(I)I"⟩
def RX5 : String := "StairsNear$Poly"
def TX5 : u_T := fun k => match k with
  | 0 => ("StairsNear$Poly", "monos", "[I", true)
  | 1 => ("StairsNear$Poly", "nums", "[I", true)
  | _ => ("StairsNear$Poly", "size", "I", false)
def tyX5 : Nat → FieldType := fun k => match k with
  | 0 => .array .int
  | 1 => .array .int
  | _ => .int
abbrev wsX50 : List Cond := u_ws RX5 TX5 3
theorem nmX5 : ∀ a, a < 3 → ∀ b, b < 3 → a ≠ b → (TX5 a).2.1 ≠ (TX5 b).2.1 := by decide +kernel
theorem tyX5_ok : ∀ k, k < 3 → parseFieldDescriptor (TX5 k).2.2.1 = some (tyX5 k) := by decide +kernel
abbrev cX5_init : ByteArray := prog_7_method_1_code
def yX5_init : MethodName := ⟨RX5, "<init>", "(I)V"⟩
abbrev cX5_clear : ByteArray := prog_7_method_2_code
def yX5_clear : MethodName := ⟨RX5, "clear", "()V"⟩
abbrev cX5_low : ByteArray := prog_7_method_3_code
def yX5_low : MethodName := ⟨RX5, "low", "()I"⟩
abbrev cX5_high : ByteArray := prog_7_method_4_code
def yX5_high : MethodName := ⟨RX5, "high", "()I"⟩
abbrev cX5_ecart : ByteArray := prog_7_method_5_code
def yX5_ecart : MethodName := ⟨RX5, "ecart", "()I"⟩
abbrev cX5_append : ByteArray := prog_7_method_6_code
def yX5_append : MethodName := ⟨RX5, "append", "(II)Z"⟩
abbrev cX5_become : ByteArray := prog_7_method_7_code
def yX5_become : MethodName := ⟨RX5, "become", "(LStairsNear$Poly;)V"⟩
abbrev cX5_becomeNumber : ByteArray := prog_7_method_8_code
def yX5_becomeNumber : MethodName := ⟨RX5, "becomeNumber", "(I)V"⟩
abbrev cX5_mix : ByteArray := prog_7_method_11_code
def yX5_mix : MethodName := ⟨RX5, "mix", "(LStairsNear$Poly;IILStairsNear$Poly;LStairsNear$Numbers;)Z"⟩
abbrev cX5_add : ByteArray := prog_7_method_12_code
def yX5_add : MethodName := ⟨RX5, "add", "(IILStairsNear$Numbers;)V"⟩
abbrev cX5_dropZeros : ByteArray := prog_7_method_13_code
def yX5_dropZeros : MethodName := ⟨RX5, "dropZeros", "()V"⟩
abbrev cX5_reorder : ByteArray := prog_7_method_14_code
def yX5_reorder : MethodName := ⟨RX5, "reorder", "(LStairsNear$Ring;)V"⟩
abbrev cX5_insert : ByteArray := prog_7_method_15_code
def yX5_insert : MethodName := ⟨RX5, "insert", "(III)V"⟩
def RX6 : String := "StairsNear$Ring"
def TX6 : u_T := fun k => match k with
  | 0 => ("StairsNear$Ring", "variables", "I", false)
  | 1 => ("StairsNear$Ring", "numbers", "LStairsNear$Numbers;", false)
  | 2 => ("StairsNear$Ring", "weights", "[I", true)
  | 3 => ("StairsNear$Ring", "monos", "[I", true)
  | 4 => ("StairsNear$Ring", "below", "[I", true)
  | 5 => ("StairsNear$Ring", "next", "[[I", true)
  | _ => ("StairsNear$Ring", "listed", "I", false)
def tyX6 : Nat → FieldType := fun k => match k with
  | 0 => .int
  | 1 => .object "StairsNear$Numbers"
  | 2 => .array .int
  | 3 => .array .int
  | 4 => .array .int
  | 5 => .array (.array .int)
  | _ => .int
abbrev wsX60 : List Cond := u_ws RX6 TX6 7
theorem nmX6 : ∀ a, a < 7 → ∀ b, b < 7 → a ≠ b → (TX6 a).2.1 ≠ (TX6 b).2.1 := by decide +kernel
theorem tyX6_ok : ∀ k, k < 7 → parseFieldDescriptor (TX6 k).2.2.1 = some (tyX6 k) := by decide +kernel
abbrev cX6_init : ByteArray := prog_8_method_1_code
def yX6_init : MethodName := ⟨RX6, "<init>", "()V"⟩
abbrev cX6_bound : ByteArray := prog_8_method_2_code
def yX6_bound : MethodName := ⟨RX6, "bound", "()I"⟩
abbrev cX6_width : ByteArray := prog_8_method_3_code
def yX6_width : MethodName := ⟨RX6, "width", "()I"⟩
abbrev cX6_weigh : ByteArray := prog_8_method_4_code
def yX6_weigh : MethodName := ⟨RX6, "weigh", "(III)V"⟩
abbrev cX6_mono : ByteArray := prog_8_method_6_code
def yX6_mono : MethodName := ⟨RX6, "mono", "(III)I"⟩
abbrev cX6_variable : ByteArray := prog_8_method_7_code
def yX6_variable : MethodName := ⟨RX6, "variable", "(I)I"⟩
abbrev cX6_column : ByteArray := prog_8_method_8_code
def yX6_column : MethodName := ⟨RX6, "column", "(I)I"⟩
abbrev cX6_listDegree : ByteArray := prog_8_method_9_code
def yX6_listDegree : MethodName := ⟨RX6, "listDegree", "(I)V"⟩
abbrev cX6_linkProducts : ByteArray := prog_8_method_10_code
def yX6_linkProducts : MethodName := ⟨RX6, "linkProducts", "(I)V"⟩
def RX7 : String := "StairsNear$Tape"
def TX7 : u_T := fun k => match k with
  | 0 => ("StairsNear$Tape", "bytes", "[I", true)
  | 1 => ("StairsNear$Tape", "size", "I", false)
  | 2 => ("StairsNear$Tape", "fault", "I", false)
  | 3 => ("StairsNear$Tape", "place", "I", false)
  | 4 => ("StairsNear$Tape", "sum", "LStairsNear$Poly;", true)
  | 5 => ("StairsNear$Tape", "at", "I", false)
  | 6 => ("StairsNear$Tape", "num", "I", false)
  | _ => ("StairsNear$Tape", "exponents", "[I", true)
def tyX7 : Nat → FieldType := fun k => match k with
  | 0 => .array .int
  | 1 => .int
  | 2 => .int
  | 3 => .int
  | 4 => .object "StairsNear$Poly"
  | 5 => .int
  | 6 => .int
  | _ => .array .int
abbrev wsX70 : List Cond := u_ws RX7 TX7 8
theorem nmX7 : ∀ a, a < 8 → ∀ b, b < 8 → a ≠ b → (TX7 a).2.1 ≠ (TX7 b).2.1 := by decide +kernel
theorem tyX7_ok : ∀ k, k < 8 → parseFieldDescriptor (TX7 k).2.2.1 = some (tyX7 k) := by decide +kernel
abbrev cX7_init : ByteArray := prog_9_method_1_code
def yX7_init : MethodName := ⟨RX7, "<init>", "()V"⟩
abbrev cX7_take : ByteArray := prog_9_method_2_code
def yX7_take : MethodName := ⟨RX7, "take", "(I)V"⟩
abbrev cX7_clearFault : ByteArray := prog_9_method_3_code
def yX7_clearFault : MethodName := ⟨RX7, "clearFault", "()V"⟩
abbrev cX7_read : ByteArray := prog_9_method_4_code
def yX7_read : MethodName := ⟨RX7, "read", "(LStairsNear$Ring;)V"⟩
abbrev cX7_readSummand : ByteArray := prog_9_method_5_code
def yX7_readSummand : MethodName := ⟨RX7, "readSummand", "(ZLStairsNear$Ring;)V"⟩
abbrev cX7_factorIsAhead : ByteArray := prog_9_method_6_code
def yX7_factorIsAhead : MethodName := ⟨RX7, "factorIsAhead", "(LStairsNear$Ring;)Z"⟩
abbrev cX7_readFactor : ByteArray := prog_9_method_7_code
def yX7_readFactor : MethodName := ⟨RX7, "readFactor", "(LStairsNear$Ring;)V"⟩
abbrev cX7_readPower : ByteArray := prog_9_method_8_code
def yX7_readPower : MethodName := ⟨RX7, "readPower", "(I)V"⟩
abbrev cX7_readDigits : ByteArray := prog_9_method_9_code
def yX7_readDigits : MethodName := ⟨RX7, "readDigits", "(I)I"⟩
abbrev cX7_ahead : ByteArray := prog_9_method_10_code
def yX7_ahead : MethodName := ⟨RX7, "ahead", "()I"⟩
abbrev cX7_blame : ByteArray := prog_9_method_11_code
def yX7_blame : MethodName := ⟨RX7, "blame", "(II)V"⟩
abbrev cX7_isDigit : ByteArray := prog_9_method_12_code
def yX7_isDigit : MethodName := ⟨RX7, "isDigit", "(I)Z"⟩
abbrev cX7_isVariable : ByteArray := prog_9_method_13_code
def yX7_isVariable : MethodName := ⟨RX7, "isVariable", "(ILStairsNear$Ring;)Z"⟩
def RX8 : String := "StairsNear$Text"
def TX8 : u_T := fun k => match k with
  | 0 => ("StairsNear$Text", "bytes", "[I", true)
  | _ => ("StairsNear$Text", "size", "I", false)
def tyX8 : Nat → FieldType := fun k => match k with
  | 0 => .array .int
  | _ => .int
abbrev wsX80 : List Cond := u_ws RX8 TX8 2
theorem nmX8 : ∀ a, a < 2 → ∀ b, b < 2 → a ≠ b → (TX8 a).2.1 ≠ (TX8 b).2.1 := by decide +kernel
theorem tyX8_ok : ∀ k, k < 2 → parseFieldDescriptor (TX8 k).2.2.1 = some (tyX8 k) := by decide +kernel
abbrev cX8_init : ByteArray := prog_10_method_1_code
def yX8_init : MethodName := ⟨RX8, "<init>", "()V"⟩
abbrev cX8_write : ByteArray := prog_10_method_2_code
def yX8_write : MethodName := ⟨RX8, "write", "(LStairsNear$Poly;)V"⟩
abbrev cX8_putPower : ByteArray := prog_10_method_3_code
def yX8_putPower : MethodName := ⟨RX8, "putPower", "(II)V"⟩
abbrev cX8_putNumber : ByteArray := prog_10_method_4_code
def yX8_putNumber : MethodName := ⟨RX8, "putNumber", "(I)V"⟩
abbrev cX8_put : ByteArray := prog_10_method_5_code
def yX8_put : MethodName := ⟨RX8, "put", "(I)V"⟩
def RX9 : String := "StairsNear"
def TX9 : u_T := fun k => match k with
  | 0 => ("StairsNear", "ring", "LStairsNear$Ring;", true)
  | 1 => ("StairsNear", "slots", "[LStairsNear$Poly;", true)
  | 2 => ("StairsNear", "tape", "LStairsNear$Tape;", true)
  | 3 => ("StairsNear", "shown", "LStairsNear$Text;", true)
  | 4 => ("StairsNear", "division", "LStairsNear$Division;", true)
  | 5 => ("StairsNear", "ideals", "[LStairsNear$Ideal;", true)
  | 6 => ("StairsNear", "sources", "[LStairsNear$Poly;", true)
  | 7 => ("StairsNear", "nextIdeal", "I", false)
  | 8 => ("StairsNear", "spare", "LStairsNear$Poly;", false)
  | 9 => ("StairsNear", "product", "LStairsNear$Poly;", false)
  | _ => ("StairsNear", "productSpare", "LStairsNear$Poly;", false)
def tyX9 : Nat → FieldType := fun k => match k with
  | 0 => .object "StairsNear$Ring"
  | 1 => .array (.object "StairsNear$Poly")
  | 2 => .object "StairsNear$Tape"
  | 3 => .object "StairsNear$Text"
  | 4 => .object "StairsNear$Division"
  | 5 => .array (.object "StairsNear$Ideal")
  | 6 => .array (.object "StairsNear$Poly")
  | 7 => .int
  | 8 => .object "StairsNear$Poly"
  | 9 => .object "StairsNear$Poly"
  | _ => .object "StairsNear$Poly"
abbrev wsX90 : List Cond := u_ws RX9 TX9 11
theorem nmX9 : ∀ a, a < 11 → ∀ b, b < 11 → a ≠ b → (TX9 a).2.1 ≠ (TX9 b).2.1 := by decide +kernel
theorem tyX9_ok : ∀ k, k < 11 → parseFieldDescriptor (TX9 k).2.2.1 = some (tyX9 k) := by decide +kernel
abbrev cX9_init : ByteArray := prog_1_method_1_code
def yX9_init : MethodName := ⟨RX9, "<init>", "()V"⟩
abbrev cX9_ring : ByteArray := prog_1_method_2_code
def yX9_ring : MethodName := ⟨RX9, "ring", "(II)Z"⟩
abbrev cX9_weights : ByteArray := prog_1_method_3_code
def yX9_weights : MethodName := ⟨RX9, "weights", "(III)Z"⟩
abbrev cX9_feed : ByteArray := prog_1_method_4_code
def yX9_feed : MethodName := ⟨RX9, "feed", "(IIIII)I"⟩
abbrev cX9_end : ByteArray := prog_1_method_5_code
def yX9_end : MethodName := ⟨RX9, "end", "(I)Z"⟩
abbrev cX9_poly : ByteArray := prog_1_method_6_code
def yX9_poly : MethodName := ⟨RX9, "poly", "(I)I"⟩
abbrev cX9_show : ByteArray := prog_1_method_8_code
def yX9_show : MethodName := ⟨RX9, "show", "(I)I"⟩
abbrev cX9_out : ByteArray := prog_1_method_9_code
def yX9_out : MethodName := ⟨RX9, "out", "(I)I"⟩
abbrev cX9_term : ByteArray := prog_1_method_10_code
def yX9_term : MethodName := ⟨RX9, "term", "(III)I"⟩
abbrev cX9_shape : ByteArray := prog_1_method_11_code
def yX9_shape : MethodName := ⟨RX9, "shape", "(II)I"⟩
abbrev cX9_make : ByteArray := prog_1_method_12_code
def yX9_make : MethodName := ⟨RX9, "make", "(IIII)I"⟩
abbrev cX9_weak : ByteArray := prog_1_method_14_code
def yX9_weak : MethodName := ⟨RX9, "weak", "(II)I"⟩
abbrev cX9_kept : ByteArray := prog_1_method_15_code
def yX9_kept : MethodName := ⟨RX9, "kept", "(II)I"⟩
abbrev cX9_step : ByteArray := prog_1_method_16_code
def yX9_step : MethodName := ⟨RX9, "step", "(II)I"⟩
abbrev cX9_stairs : ByteArray := prog_1_method_19_code
def yX9_stairs : MethodName := ⟨RX9, "stairs", "(III)I"⟩
abbrev cX9_rest : ByteArray := prog_1_method_21_code
def yX9_rest : MethodName := ⟨RX9, "rest", "(IIII)I"⟩
abbrev cX9_look : ByteArray := prog_1_method_25_code
def yX9_look : MethodName := ⟨RX9, "look", "(I)I"⟩
abbrev cX9_polys : ByteArray := prog_1_method_26_code
def yX9_polys : MethodName := ⟨RX9, "polys", "(I)[LStairsNear$Poly;"⟩
abbrev cX9_isPrime : ByteArray := prog_1_method_27_code
def yX9_isPrime : MethodName := ⟨RX9, "isPrime", "(I)Z"⟩
abbrev cX9_isWeight : ByteArray := prog_1_method_28_code
def yX9_isWeight : MethodName := ⟨RX9, "isWeight", "(I)Z"⟩
abbrev cX9_isSlot : ByteArray := prog_1_method_29_code
def yX9_isSlot : MethodName := ⟨RX9, "isSlot", "(I)Z"⟩
abbrev cX9_isSet : ByteArray := prog_1_method_30_code
def yX9_isSet : MethodName := ⟨RX9, "isSet", "(I)Z"⟩
abbrev cX9_isBound : ByteArray := prog_1_method_31_code
def yX9_isBound : MethodName := ⟨RX9, "isBound", "(I)Z"⟩
abbrev cX9_held : ByteArray := prog_1_method_32_code
def yX9_held : MethodName := ⟨RX9, "held", "(I)I"⟩
abbrev cX9_putSpare : ByteArray := prog_1_method_33_code
def yX9_putSpare : MethodName := ⟨RX9, "putSpare", "(I)I"⟩
abbrev cX9_forgetWhatWasWorkedOut : ByteArray := prog_1_method_34_code
def yX9_forgetWhatWasWorkedOut : MethodName := ⟨RX9, "forgetWhatWasWorkedOut", "()V"⟩
abbrev cX9_multiply : ByteArray := prog_1_method_35_code
def yX9_multiply : MethodName := ⟨RX9, "multiply", "(LStairsNear$Poly;LStairsNear$Poly;)Z"⟩
abbrev cX9_oldestIdeal : ByteArray := prog_1_method_36_code
def yX9_oldestIdeal : MethodName := ⟨RX9, "oldestIdeal", "()LStairsNear$Ideal;"⟩
abbrev cX9_idealOf : ByteArray := prog_1_method_37_code
def yX9_idealOf : MethodName := ⟨RX9, "idealOf", "(I)LStairsNear$Ideal;"⟩
abbrev cX9_tellMono : ByteArray := prog_1_method_39_code
def yX9_tellMono : MethodName := ⟨RX9, "tellMono", "(II)I"⟩
def RX10 : String := "StairsNearModel"
def TX10 : u_T := fun k => match k with
  | _ => ("", "", "", false)
def tyX10 : Nat → FieldType := fun k => match k with
  | _ => .int
abbrev wsX100 : List Cond := u_ws RX10 TX10 0
theorem nmX10 : ∀ a, a < 0 → ∀ b, b < 0 → a ≠ b → (TX10 a).2.1 ≠ (TX10 b).2.1 := by decide +kernel
theorem tyX10_ok : ∀ k, k < 0 → parseFieldDescriptor (TX10 k).2.2.1 = some (tyX10 k) := by decide +kernel
def RJx145de : String := "java/io/Serializable"
def TJx145de : u_T := fun k => match k with
  | _ => ("", "", "", false)
def tyJx145de : Nat → FieldType := fun k => match k with
  | _ => .int
theorem nmJx145de : ∀ a, a < 0 → ∀ b, b < 0 → a ≠ b → (TJx145de a).2.1 ≠ (TJx145de b).2.1 := by decide +kernel
theorem tyJx145de_ok : ∀ k, k < 0 → parseFieldDescriptor (TJx145de k).2.2.1 = some (tyJx145de k) := by decide +kernel
def RJ5 : String := "java/lang/AbstractStringBuilder"
def TJ5 : u_T := fun k => match k with
  | _ => ("", "", "", false)
def tyJ5 : Nat → FieldType := fun k => match k with
  | _ => .int
theorem nmJ5 : ∀ a, a < 0 → ∀ b, b < 0 → a ≠ b → (TJ5 a).2.1 ≠ (TJ5 b).2.1 := by decide +kernel
theorem tyJ5_ok : ∀ k, k < 0 → parseFieldDescriptor (TJ5 k).2.2.1 = some (tyJ5 k) := by decide +kernel
abbrev cJ5_init_d00df : ByteArray := prog_13_method_2_code
def yJ5_init_d00df : MethodName := ⟨RJ5, "<init>", "(I)V"⟩
abbrev cJ5_length_8abf5 : ByteArray := prog_13_method_6_code
def yJ5_length_8abf5 : MethodName := ⟨RJ5, "length", "()I"⟩
abbrev cJ5_ensureCapacityInternal_d00df : ByteArray := prog_13_method_9_code
def yJ5_ensureCapacityInternal_d00df : MethodName := ⟨RJ5, "ensureCapacityInternal", "(I)V"⟩
abbrev cJ5_newCapacity_0f7a4 : ByteArray := prog_13_method_10_code
def yJ5_newCapacity_0f7a4 : MethodName := ⟨RJ5, "newCapacity", "(I)I"⟩
abbrev cJ5_inflate_da8c8 : ByteArray := prog_13_method_11_code
def yJ5_inflate_da8c8 : MethodName := ⟨RJ5, "inflate", "()V"⟩
abbrev cJ5_append_cf1ce : ByteArray := prog_13_method_22_code
def yJ5_append_cf1ce : MethodName := ⟨RJ5, "append", "(Ljava/lang/String;)Ljava/lang/AbstractStringBuilder;"⟩
abbrev cJ5_appendNull_278bc : ByteArray := prog_13_method_26_code
def yJ5_appendNull_278bc : MethodName := ⟨RJ5, "appendNull", "()Ljava/lang/AbstractStringBuilder;"⟩
abbrev cJ5_append_3fe6f : ByteArray := prog_13_method_31_code
def yJ5_append_3fe6f : MethodName := ⟨RJ5, "append", "(C)Ljava/lang/AbstractStringBuilder;"⟩
abbrev cJ5_append_c97b9 : ByteArray := prog_13_method_32_code
def yJ5_append_c97b9 : MethodName := ⟨RJ5, "append", "(I)Ljava/lang/AbstractStringBuilder;"⟩
abbrev cJ5_getValue_6d5f1 : ByteArray := prog_13_method_64_code
def yJ5_getValue_6d5f1 : MethodName := ⟨RJ5, "getValue", "()[B"⟩
abbrev cJ5_isLatin1_aae02 : ByteArray := prog_13_method_68_code
def yJ5_isLatin1_aae02 : MethodName := ⟨RJ5, "isLatin1", "()Z"⟩
abbrev cJ5_inflateIfNeededFor_a7421 : ByteArray := prog_13_method_71_code
def yJ5_inflateIfNeededFor_a7421 : MethodName := ⟨RJ5, "inflateIfNeededFor", "(Ljava/lang/String;)V"⟩
abbrev cJ5_putStringAt_47b60 : ByteArray := prog_13_method_73_code
def yJ5_putStringAt_47b60 : MethodName := ⟨RJ5, "putStringAt", "(ILjava/lang/String;)V"⟩
def RJx2cfe8 : String := "java/lang/Appendable"
def TJx2cfe8 : u_T := fun k => match k with
  | _ => ("", "", "", false)
def tyJx2cfe8 : Nat → FieldType := fun k => match k with
  | _ => .int
theorem nmJx2cfe8 : ∀ a, a < 0 → ∀ b, b < 0 → a ≠ b → (TJx2cfe8 a).2.1 ≠ (TJx2cfe8 b).2.1 := by decide +kernel
theorem tyJx2cfe8_ok : ∀ k, k < 0 → parseFieldDescriptor (TJx2cfe8 k).2.2.1 = some (tyJx2cfe8 k) := by decide +kernel
def RJx9f9b0 : String := "java/lang/CharSequence"
def TJx9f9b0 : u_T := fun k => match k with
  | _ => ("", "", "", false)
def tyJx9f9b0 : Nat → FieldType := fun k => match k with
  | _ => .int
theorem nmJx9f9b0 : ∀ a, a < 0 → ∀ b, b < 0 → a ≠ b → (TJx9f9b0 a).2.1 ≠ (TJx9f9b0 b).2.1 := by decide +kernel
theorem tyJx9f9b0_ok : ∀ k, k < 0 → parseFieldDescriptor (TJx9f9b0 k).2.2.1 = some (tyJx9f9b0 k) := by decide +kernel
def RJx8e188 : String := "java/lang/Cloneable"
def TJx8e188 : u_T := fun k => match k with
  | _ => ("", "", "", false)
def tyJx8e188 : Nat → FieldType := fun k => match k with
  | _ => .int
theorem nmJx8e188 : ∀ a, a < 0 → ∀ b, b < 0 → a ≠ b → (TJx8e188 a).2.1 ≠ (TJx8e188 b).2.1 := by decide +kernel
theorem tyJx8e188_ok : ∀ k, k < 0 → parseFieldDescriptor (TJx8e188 k).2.2.1 = some (tyJx8e188 k) := by decide +kernel
def RJxb160c : String := "java/lang/Comparable"
def TJxb160c : u_T := fun k => match k with
  | _ => ("", "", "", false)
def tyJxb160c : Nat → FieldType := fun k => match k with
  | _ => .int
theorem nmJxb160c : ∀ a, a < 0 → ∀ b, b < 0 → a ≠ b → (TJxb160c a).2.1 ≠ (TJxb160c b).2.1 := by decide +kernel
theorem tyJxb160c_ok : ∀ k, k < 0 → parseFieldDescriptor (TJxb160c k).2.2.1 = some (tyJxb160c k) := by decide +kernel
def RJ6 : String := "java/lang/Integer"
def TJ6 : u_T := fun k => match k with
  | _ => ("", "", "", false)
def tyJ6 : Nat → FieldType := fun k => match k with
  | _ => .int
theorem nmJ6 : ∀ a, a < 0 → ∀ b, b < 0 → a ≠ b → (TJ6 a).2.1 ≠ (TJ6 b).2.1 := by decide +kernel
theorem tyJ6_ok : ∀ k, k < 0 → parseFieldDescriptor (TJ6 k).2.2.1 = some (tyJ6 k) := by decide +kernel
abbrev cJ6_getChars_ba4f3 : ByteArray := prog_15_method_12_code
def yJ6_getChars_ba4f3 : MethodName := ⟨RJ6, "getChars", "(II[B)I"⟩
abbrev cJ6_stringSize_0f7a4 : ByteArray := prog_15_method_13_code
def yJ6_stringSize_0f7a4 : MethodName := ⟨RJ6, "stringSize", "(I)I"⟩
abbrev cJ6_bitCount_0f7a4 : ByteArray := prog_15_method_49_code
def yJ6_bitCount_0f7a4 : MethodName := ⟨RJ6, "bitCount", "(I)I"⟩
def RJ9 : String := "java/lang/Math"
def TJ9 : u_T := fun k => match k with
  | _ => ("", "", "", false)
def tyJ9 : Nat → FieldType := fun k => match k with
  | _ => .int
theorem nmJ9 : ∀ a, a < 0 → ∀ b, b < 0 → a ≠ b → (TJ9 a).2.1 ≠ (TJ9 b).2.1 := by decide +kernel
theorem tyJ9_ok : ∀ k, k < 0 → parseFieldDescriptor (TJ9 k).2.2.1 = some (tyJ9 k) := by decide +kernel
abbrev cJ9_max_7cf53 : ByteArray := prog_16_method_65_code
def yJ9_max_7cf53 : MethodName := ⟨RJ9, "max", "(II)I"⟩
abbrev cJ9_min_7cf53 : ByteArray := prog_16_method_69_code
def yJ9_min_7cf53 : MethodName := ⟨RJ9, "min", "(II)I"⟩
def RJxd2413 : String := "java/lang/Number"
def TJxd2413 : u_T := fun k => match k with
  | _ => ("", "", "", false)
def tyJxd2413 : Nat → FieldType := fun k => match k with
  | _ => .int
theorem nmJxd2413 : ∀ a, a < 0 → ∀ b, b < 0 → a ≠ b → (TJxd2413 a).2.1 ≠ (TJxd2413 b).2.1 := by decide +kernel
theorem tyJxd2413_ok : ∀ k, k < 0 → parseFieldDescriptor (TJxd2413 k).2.2.1 = some (tyJxd2413 k) := by decide +kernel
def RJ0 : String := "java/lang/String"
def TJ0 : u_T := fun k => match k with
  | 0 => ("java/lang/String", "value", "[B", true)
  | 1 => ("java/lang/String", "coder", "B", true)
  | 2 => ("java/lang/String", "hash", "I", false)
  | _ => ("java/lang/String", "hashIsZero", "Z", false)
def tyJ0 : Nat → FieldType := fun k => match k with
  | 0 => .array .byte
  | 1 => .byte
  | 2 => .int
  | _ => .boolean
theorem nmJ0 : ∀ a, a < 4 → ∀ b, b < 4 → a ≠ b → (TJ0 a).2.1 ≠ (TJ0 b).2.1 := by decide +kernel
theorem tyJ0_ok : ∀ k, k < 4 → parseFieldDescriptor (TJ0 k).2.2.1 = some (tyJ0 k) := by decide +kernel
abbrev cJ0_init_81219 : ByteArray := prog_18_method_53_code
def yJ0_init_81219 : MethodName := ⟨RJ0, "<init>", "(Ljava/lang/StringBuilder;)V"⟩
abbrev cJ0_length_8abf5 : ByteArray := prog_18_method_54_code
def yJ0_length_8abf5 : MethodName := ⟨RJ0, "length", "()I"⟩
abbrev cJ0_charAt_5068e : ByteArray := prog_18_method_56_code
def yJ0_charAt_5068e : MethodName := ⟨RJ0, "charAt", "(I)C"⟩
abbrev cJ0_equals_9ea2d : ByteArray := prog_18_method_66_code
def yJ0_equals_9ea2d : MethodName := ⟨RJ0, "equals", "(Ljava/lang/Object;)Z"⟩
abbrev cJ0_getBytes_840e7 : ByteArray := prog_18_method_147_code
def yJ0_getBytes_840e7 : MethodName := ⟨RJ0, "getBytes", "([BIB)V"⟩
abbrev cJ0_init_db425 : ByteArray := prog_18_method_150_code
def yJ0_init_db425 : MethodName := ⟨RJ0, "<init>", "(Ljava/lang/AbstractStringBuilder;Ljava/lang/Void;)V"⟩
abbrev cJ0_coder_7d493 : ByteArray := prog_18_method_152_code
def yJ0_coder_7d493 : MethodName := ⟨RJ0, "coder", "()B"⟩
abbrev cJ0_isLatin1_aae02 : ByteArray := prog_18_method_154_code
def yJ0_isLatin1_aae02 : MethodName := ⟨RJ0, "isLatin1", "()Z"⟩
abbrev cJ0_checkIndex_df160 : ByteArray := prog_18_method_155_code
def yJ0_checkIndex_df160 : MethodName := ⟨RJ0, "checkIndex", "(II)V"⟩
abbrev cJ0_checkBoundsOffCount_cabcc : ByteArray := prog_18_method_157_code
def yJ0_checkBoundsOffCount_cabcc : MethodName := ⟨RJ0, "checkBoundsOffCount", "(III)I"⟩
abbrev cJ0_checkBoundsBeginEnd_23922 : ByteArray := prog_18_method_158_code
def yJ0_checkBoundsBeginEnd_23922 : MethodName := ⟨RJ0, "checkBoundsBeginEnd", "(III)V"⟩
def RJ4 : String := "java/lang/StringBuilder"
def TJ4 : u_T := fun k => match k with
  | 0 => ("java/lang/AbstractStringBuilder", "value", "[B", false)
  | 1 => ("java/lang/AbstractStringBuilder", "coder", "B", false)
  | 2 => ("java/lang/AbstractStringBuilder", "maybeLatin1", "Z", false)
  | _ => ("java/lang/AbstractStringBuilder", "count", "I", false)
def tyJ4 : Nat → FieldType := fun k => match k with
  | 0 => .array .byte
  | 1 => .byte
  | 2 => .boolean
  | _ => .int
theorem nmJ4 : ∀ a, a < 4 → ∀ b, b < 4 → a ≠ b → (TJ4 a).2.1 ≠ (TJ4 b).2.1 := by decide +kernel
theorem tyJ4_ok : ∀ k, k < 4 → parseFieldDescriptor (TJ4 k).2.2.1 = some (tyJ4 k) := by decide +kernel
abbrev cJ4_init_da8c8 : ByteArray := prog_19_method_1_code
def yJ4_init_da8c8 : MethodName := ⟨RJ4, "<init>", "()V"⟩
abbrev cJ4_append_15ec4 : ByteArray := prog_19_method_7_code
def yJ4_append_15ec4 : MethodName := ⟨RJ4, "append", "(Ljava/lang/String;)Ljava/lang/StringBuilder;"⟩
abbrev cJ4_append_cf468 : ByteArray := prog_19_method_14_code
def yJ4_append_cf468 : MethodName := ⟨RJ4, "append", "(C)Ljava/lang/StringBuilder;"⟩
abbrev cJ4_append_bf812 : ByteArray := prog_19_method_15_code
def yJ4_append_bf812 : MethodName := ⟨RJ4, "append", "(I)Ljava/lang/StringBuilder;"⟩
abbrev cJ4_toString_0e30d : ByteArray := prog_19_method_42_code
def yJ4_toString_0e30d : MethodName := ⟨RJ4, "toString", "()Ljava/lang/String;"⟩
abbrev cJ4_length_8abf5 : ByteArray := prog_19_method_93_code
def yJ4_length_8abf5 : MethodName := ⟨RJ4, "length", "()I"⟩
def RJ1 : String := "java/lang/StringLatin1"
def TJ1 : u_T := fun k => match k with
  | _ => ("", "", "", false)
def tyJ1 : Nat → FieldType := fun k => match k with
  | _ => .int
theorem nmJ1 : ∀ a, a < 0 → ∀ b, b < 0 → a ≠ b → (TJ1 a).2.1 ≠ (TJ1 b).2.1 := by decide +kernel
theorem tyJ1_ok : ∀ k, k < 0 → parseFieldDescriptor (TJ1 k).2.2.1 = some (tyJ1 k) := by decide +kernel
abbrev cJ1_charAt_3b067 : ByteArray := prog_20_method_2_code
def yJ1_charAt_3b067 : MethodName := ⟨RJ1, "charAt", "([BI)C"⟩
abbrev cJ1_canEncode_fc78d : ByteArray := prog_20_method_3_code
def yJ1_canEncode_fc78d : MethodName := ⟨RJ1, "canEncode", "(C)Z"⟩
abbrev cJ1_equals_b5fdf : ByteArray := prog_20_method_13_code
def yJ1_equals_b5fdf : MethodName := ⟨RJ1, "equals", "([B[B)Z"⟩
abbrev cJ1_inflate_0e8fd : ByteArray := prog_20_method_50_code
def yJ1_inflate_0e8fd : MethodName := ⟨RJ1, "inflate", "([BI[BII)V"⟩
def RJ2 : String := "java/lang/StringUTF16"
def TJ2 : u_T := fun k => match k with
  | _ => ("", "", "", false)
def tyJ2 : Nat → FieldType := fun k => match k with
  | _ => .int
theorem nmJ2 : ∀ a, a < 0 → ∀ b, b < 0 → a ≠ b → (TJ2 a).2.1 ≠ (TJ2 b).2.1 := by decide +kernel
theorem tyJ2_ok : ∀ k, k < 0 → parseFieldDescriptor (TJ2 k).2.2.1 = some (tyJ2 k) := by decide +kernel
abbrev cJ2_newBytesFor_77867 : ByteArray := prog_21_method_2_code
def yJ2_newBytesFor_77867 : MethodName := ⟨RJ2, "newBytesFor", "(I)[B"⟩
abbrev cJ2_newBytesLength_0f7a4 : ByteArray := prog_21_method_3_code
def yJ2_newBytesLength_0f7a4 : MethodName := ⟨RJ2, "newBytesLength", "(I)I"⟩
abbrev cJ2_putChar_b72d1 : ByteArray := prog_21_method_4_code
def yJ2_putChar_b72d1 : MethodName := ⟨RJ2, "putChar", "([BII)V"⟩
abbrev cJ2_getChar_3b067 : ByteArray := prog_21_method_5_code
def yJ2_getChar_3b067 : MethodName := ⟨RJ2, "getChar", "([BI)C"⟩
abbrev cJ2_length_9d52b : ByteArray := prog_21_method_6_code
def yJ2_length_9d52b : MethodName := ⟨RJ2, "length", "([B)I"⟩
abbrev cJ2_coderFromArrayLen_85cad : ByteArray := prog_21_method_15_code
def yJ2_coderFromArrayLen_85cad : MethodName := ⟨RJ2, "coderFromArrayLen", "([BI)B"⟩
abbrev cJ2_compress_39247 : ByteArray := prog_21_method_17_code
def yJ2_compress_39247 : MethodName := ⟨RJ2, "compress", "([BII)[B"⟩
abbrev cJ2_compress_5af95 : ByteArray := prog_21_method_22_code
def yJ2_compress_5af95 : MethodName := ⟨RJ2, "compress", "([BI[BII)I"⟩
abbrev cJ2_putCharSB_b72d1 : ByteArray := prog_21_method_71_code
def yJ2_putCharSB_b72d1 : MethodName := ⟨RJ2, "putCharSB", "([BII)V"⟩
abbrev cJ2_getChars_46870 : ByteArray := prog_21_method_77_code
def yJ2_getChars_46870 : MethodName := ⟨RJ2, "getChars", "(III[B)I"⟩
abbrev cJ2_putCharsAt_cd4e5 : ByteArray := prog_21_method_81_code
def yJ2_putCharsAt_cd4e5 : MethodName := ⟨RJ2, "putCharsAt", "([BICCCC)I"⟩
abbrev cJ2_charAt_3b067 : ByteArray := prog_21_method_83_code
def yJ2_charAt_3b067 : MethodName := ⟨RJ2, "charAt", "([BI)C"⟩
abbrev cJ2_inflate_0e8fd : ByteArray := prog_21_method_86_code
def yJ2_inflate_0e8fd : MethodName := ⟨RJ2, "inflate", "([BI[BII)V"⟩
abbrev cJ2_getChars_ba4f3 : ByteArray := prog_21_method_89_code
def yJ2_getChars_ba4f3 : MethodName := ⟨RJ2, "getChars", "(II[B)I"⟩
abbrev cJ2_checkIndex_2214a : ByteArray := prog_21_method_91_code
def yJ2_checkIndex_2214a : MethodName := ⟨RJ2, "checkIndex", "(I[B)V"⟩
abbrev cJ2_checkBoundsBeginEnd_d044e : ByteArray := prog_21_method_93_code
def yJ2_checkBoundsBeginEnd_d044e : MethodName := ⟨RJ2, "checkBoundsBeginEnd", "(II[B)V"⟩
abbrev cJ2_checkBoundsOffCount_d044e : ByteArray := prog_21_method_94_code
def yJ2_checkBoundsOffCount_d044e : MethodName := ⟨RJ2, "checkBoundsOffCount", "(II[B)V"⟩
def RJ10 : String := "java/lang/System"
def TJ10 : u_T := fun k => match k with
  | _ => ("", "", "", false)
def tyJ10 : Nat → FieldType := fun k => match k with
  | _ => .int
theorem nmJ10 : ∀ a, a < 0 → ∀ b, b < 0 → a ≠ b → (TJ10 a).2.1 ≠ (TJ10 b).2.1 := by decide +kernel
theorem tyJ10_ok : ∀ k, k < 0 → parseFieldDescriptor (TJ10 k).2.2.1 = some (tyJ10 k) := by decide +kernel
def RJxfd54e : String := "java/lang/constant/Constable"
def TJxfd54e : u_T := fun k => match k with
  | _ => ("", "", "", false)
def tyJxfd54e : Nat → FieldType := fun k => match k with
  | _ => .int
theorem nmJxfd54e : ∀ a, a < 0 → ∀ b, b < 0 → a ≠ b → (TJxfd54e a).2.1 ≠ (TJxfd54e b).2.1 := by decide +kernel
theorem tyJxfd54e_ok : ∀ k, k < 0 → parseFieldDescriptor (TJxfd54e k).2.2.1 = some (tyJxfd54e k) := by decide +kernel
def RJx3cf43 : String := "java/lang/constant/ConstantDesc"
def TJx3cf43 : u_T := fun k => match k with
  | _ => ("", "", "", false)
def tyJx3cf43 : Nat → FieldType := fun k => match k with
  | _ => .int
theorem nmJx3cf43 : ∀ a, a < 0 → ∀ b, b < 0 → a ≠ b → (TJx3cf43 a).2.1 ≠ (TJx3cf43 b).2.1 := by decide +kernel
theorem tyJx3cf43_ok : ∀ k, k < 0 → parseFieldDescriptor (TJx3cf43 k).2.2.1 = some (tyJx3cf43 k) := by decide +kernel
def RJ7 : String := "java/util/Arrays"
def TJ7 : u_T := fun k => match k with
  | _ => ("", "", "", false)
def tyJ7 : Nat → FieldType := fun k => match k with
  | _ => .int
theorem nmJ7 : ∀ a, a < 0 → ∀ b, b < 0 → a ≠ b → (TJ7 a).2.1 ≠ (TJ7 b).2.1 := by decide +kernel
theorem tyJ7_ok : ∀ k, k < 0 → parseFieldDescriptor (TJ7 k).2.2.1 = some (tyJ7 k) := by decide +kernel
abbrev cJ7_fill_53178 : ByteArray := prog_23_method_103_code
def yJ7_fill_53178 : MethodName := ⟨RJ7, "fill", "([II)V"⟩
abbrev cJ7_copyOf_9075b : ByteArray := prog_23_method_121_code
def yJ7_copyOf_9075b : MethodName := ⟨RJ7, "copyOf", "([BI)[B"⟩
abbrev cJ7_checkLength_df160 : ByteArray := prog_23_method_131_code
def yJ7_checkLength_df160 : MethodName := ⟨RJ7, "checkLength", "(II)V"⟩
abbrev cJ7_copyOfRange_39247 : ByteArray := prog_23_method_132_code
def yJ7_copyOfRange_39247 : MethodName := ⟨RJ7, "copyOfRange", "([BII)[B"⟩
abbrev cJ7_copyOfRangeByte_39247 : ByteArray := prog_23_method_133_code
def yJ7_copyOfRangeByte_39247 : MethodName := ⟨RJ7, "copyOfRangeByte", "([BII)[B"⟩
def RJ8 : String := "jdk/internal/util/ArraysSupport"
def TJ8 : u_T := fun k => match k with
  | _ => ("", "", "", false)
def tyJ8 : Nat → FieldType := fun k => match k with
  | _ => .int
theorem nmJ8 : ∀ a, a < 0 → ∀ b, b < 0 → a ≠ b → (TJ8 a).2.1 ≠ (TJ8 b).2.1 := by decide +kernel
theorem tyJ8_ok : ∀ k, k < 0 → parseFieldDescriptor (TJ8 k).2.2.1 = some (tyJ8 k) := by decide +kernel
abbrev cJ8_newLength_cabcc : ByteArray := prog_24_method_27_code
def yJ8_newLength_cabcc : MethodName := ⟨RJ8, "newLength", "(III)I"⟩
abbrev cJ8_hugeLength_7cf53 : ByteArray := prog_24_method_28_code
def yJ8_hugeLength_7cf53 : MethodName := ⟨RJ8, "hugeLength", "(II)I"⟩
def RJ3 : String := "jdk/internal/util/Preconditions"
def TJ3 : u_T := fun k => match k with
  | _ => ("", "", "", false)
def tyJ3 : Nat → FieldType := fun k => match k with
  | _ => .int
theorem nmJ3 : ∀ a, a < 0 → ∀ b, b < 0 → a ≠ b → (TJ3 a).2.1 ≠ (TJ3 b).2.1 := by decide +kernel
theorem tyJ3_ok : ∀ k, k < 0 → parseFieldDescriptor (TJ3 k).2.2.1 = some (tyJ3 k) := by decide +kernel
abbrev cJ3_checkIndex_8e157 : ByteArray := prog_25_method_11_code
def yJ3_checkIndex_8e157 : MethodName := ⟨RJ3, "checkIndex", "(IILjava/util/function/BiFunction;)I"⟩
abbrev cJ3_checkFromToIndex_8c36e : ByteArray := prog_25_method_12_code
def yJ3_checkFromToIndex_8c36e : MethodName := ⟨RJ3, "checkFromToIndex", "(IIILjava/util/function/BiFunction;)I"⟩
abbrev cJ3_checkFromIndexSize_8c36e : ByteArray := prog_25_method_13_code
def yJ3_checkFromIndexSize_8c36e : MethodName := ⟨RJ3, "checkFromIndexSize", "(IIILjava/util/function/BiFunction;)I"⟩
def RL : String := "StairsNearLaw"
abbrev cL_cell : ByteArray := method_2_code
def yL_cell : MethodName := ⟨RL, "cell", "([II)I"⟩
abbrev cL_between : ByteArray := method_3_code
def yL_between : MethodName := ⟨RL, "between", "(III)I"⟩
abbrev cL_poly : ByteArray := method_4_code
def yL_poly : MethodName := ⟨RL, "poly", "(LStairsNear;ILjava/lang/String;)I"⟩
abbrev cL_said : ByteArray := method_5_code
def yL_said : MethodName := ⟨RL, "said", "(LStairsNear;I)Ljava/lang/String;"⟩
abbrev cL_drawn : ByteArray := method_6_code
def yL_drawn : MethodName := ⟨RL, "drawn", "(IIIII)Ljava/lang/String;"⟩
abbrev cL_law : ByteArray := code
def yL_law : MethodName := ⟨RL, "law", "([I)Z"⟩
abbrev cL_isStepped : ByteArray := method_8_code
def yL_isStepped : MethodName := ⟨RL, "isStepped", "(LStairsNear;I)Z"⟩
abbrev cL_isWhole : ByteArray := method_9_code
def yL_isWhole : MethodName := ⟨RL, "isWhole", "(LStairsNear;I)Z"⟩
abbrev cL_isLeft : ByteArray := method_10_code
def yL_isLeft : MethodName := ⟨RL, "isLeft", "(LStairsNear;I)Z"⟩
abbrev cL_isRest : ByteArray := method_11_code
def yL_isRest : MethodName := ⟨RL, "isRest", "(LStairsNear;II)Z"⟩
abbrev vwCl : List vw_C := [(RX0, TX0, 9), (RX1, TX1, 3), (RX2, TX2, 4), (RX4, TX4, 1), (RX5, TX5, 3), (RX6, TX6, 7), (RX7, TX7, 8), (RX8, TX8, 2), (RX9, TX9, 11), (RJ0, TJ0, 4), (RJ4, TJ4, 4)]
end
section
theorem dJ0_init_81219_0 : decode cJ0_init_81219 0 = .ok (.aload_n 0, 1) := by decide +kernel
theorem dJ0_init_81219_1 : decode cJ0_init_81219 1 = .ok (.aload_n 1, 1) := by decide +kernel
theorem dJ0_init_81219_2 : decode cJ0_init_81219 2 = .ok (.aconst_null, 1) := by decide +kernel
theorem dJ0_init_81219_3 : decode cJ0_init_81219 3 = .ok (.invokespecial 489, 3) := by decide +kernel
theorem dJ0_init_81219_6 : decode cJ0_init_81219 6 = .ok (.return_, 1) := by decide +kernel
theorem dJ0_length_8abf5_0 : decode cJ0_length_8abf5 0 = .ok (.aload_n 0, 1) := by decide +kernel
theorem dJ0_length_8abf5_1 : decode cJ0_length_8abf5 1 = .ok (.getfield 9, 3) := by decide +kernel
theorem dJ0_length_8abf5_4 : decode cJ0_length_8abf5 4 = .ok (.arraylength, 1) := by decide +kernel
theorem dJ0_length_8abf5_5 : decode cJ0_length_8abf5 5 = .ok (.aload_n 0, 1) := by decide +kernel
theorem dJ0_length_8abf5_6 : decode cJ0_length_8abf5 6 = .ok (.invokevirtual 335, 3) := by decide +kernel
theorem dJ0_length_8abf5_9 : decode cJ0_length_8abf5 9 = .ok (.ishr, 1) := by decide +kernel
theorem dJ0_length_8abf5_10 : decode cJ0_length_8abf5 10 = .ok (.ireturn, 1) := by decide +kernel
theorem dJ0_charAt_5068e_0 : decode cJ0_charAt_5068e 0 = .ok (.aload_n 0, 1) := by decide +kernel
theorem dJ0_charAt_5068e_1 : decode cJ0_charAt_5068e 1 = .ok (.invokevirtual 492, 3) := by decide +kernel
theorem dJ0_charAt_5068e_4 : decode cJ0_charAt_5068e 4 = .ok (.ifCond .eq 12, 3) := by decide +kernel
theorem dJ0_charAt_5068e_7 : decode cJ0_charAt_5068e 7 = .ok (.aload_n 0, 1) := by decide +kernel
theorem dJ0_charAt_5068e_8 : decode cJ0_charAt_5068e 8 = .ok (.getfield 9, 3) := by decide +kernel
theorem dJ0_charAt_5068e_11 : decode cJ0_charAt_5068e 11 = .ok (.iload_n 1, 1) := by decide +kernel
theorem dJ0_charAt_5068e_12 : decode cJ0_charAt_5068e 12 = .ok (.invokestatic 495, 3) := by decide +kernel
theorem dJ0_charAt_5068e_15 : decode cJ0_charAt_5068e 15 = .ok (.ireturn, 1) := by decide +kernel
theorem dJ0_charAt_5068e_16 : decode cJ0_charAt_5068e 16 = .ok (.aload_n 0, 1) := by decide +kernel
theorem dJ0_charAt_5068e_17 : decode cJ0_charAt_5068e 17 = .ok (.getfield 9, 3) := by decide +kernel
theorem dJ0_charAt_5068e_20 : decode cJ0_charAt_5068e 20 = .ok (.iload_n 1, 1) := by decide +kernel
theorem dJ0_charAt_5068e_21 : decode cJ0_charAt_5068e 21 = .ok (.invokestatic 498, 3) := by decide +kernel
theorem dJ0_charAt_5068e_24 : decode cJ0_charAt_5068e 24 = .ok (.ireturn, 1) := by decide +kernel
theorem dJ0_equals_9ea2d_0 : decode cJ0_equals_9ea2d 0 = .ok (.aload_n 0, 1) := by decide +kernel
theorem dJ0_equals_9ea2d_1 : decode cJ0_equals_9ea2d 1 = .ok (.aload_n 1, 1) := by decide +kernel
theorem dJ0_equals_9ea2d_2 : decode cJ0_equals_9ea2d 2 = .ok (.if_acmp .ne 5, 3) := by decide +kernel
theorem dJ0_equals_9ea2d_5 : decode cJ0_equals_9ea2d 5 = .ok (.iconst 1, 1) := by decide +kernel
theorem dJ0_equals_9ea2d_6 : decode cJ0_equals_9ea2d 6 = .ok (.ireturn, 1) := by decide +kernel
theorem dJ0_equals_9ea2d_7 : decode cJ0_equals_9ea2d 7 = .ok (.aload_n 1, 1) := by decide +kernel
theorem dJ0_equals_9ea2d_8 : decode cJ0_equals_9ea2d 8 = .ok (.instanceof 10, 3) := by decide +kernel
theorem dJ0_equals_9ea2d_11 : decode cJ0_equals_9ea2d 11 = .ok (.ifCond .eq 43, 3) := by decide +kernel
theorem dJ0_equals_9ea2d_14 : decode cJ0_equals_9ea2d 14 = .ok (.aload_n 1, 1) := by decide +kernel
theorem dJ0_equals_9ea2d_15 : decode cJ0_equals_9ea2d 15 = .ok (.checkcast 10, 3) := by decide +kernel
theorem dJ0_equals_9ea2d_18 : decode cJ0_equals_9ea2d 18 = .ok (.astore_n 2, 1) := by decide +kernel
theorem dJ0_equals_9ea2d_19 : decode cJ0_equals_9ea2d 19 = .ok (.getstatic 38, 3) := by decide +kernel
theorem dJ0_equals_9ea2d_22 : decode cJ0_equals_9ea2d 22 = .ok (.ifCond .eq 14, 3) := by decide +kernel
theorem dJ0_equals_9ea2d_25 : decode cJ0_equals_9ea2d 25 = .ok (.aload_n 0, 1) := by decide +kernel
theorem dJ0_equals_9ea2d_26 : decode cJ0_equals_9ea2d 26 = .ok (.getfield 15, 3) := by decide +kernel
theorem dJ0_equals_9ea2d_29 : decode cJ0_equals_9ea2d 29 = .ok (.aload_n 2, 1) := by decide +kernel
theorem dJ0_equals_9ea2d_30 : decode cJ0_equals_9ea2d 30 = .ok (.getfield 15, 3) := by decide +kernel
theorem dJ0_equals_9ea2d_33 : decode cJ0_equals_9ea2d 33 = .ok (.if_icmp .ne 21, 3) := by decide +kernel
theorem dJ0_equals_9ea2d_36 : decode cJ0_equals_9ea2d 36 = .ok (.aload_n 0, 1) := by decide +kernel
theorem dJ0_equals_9ea2d_37 : decode cJ0_equals_9ea2d 37 = .ok (.getfield 9, 3) := by decide +kernel
theorem dJ0_equals_9ea2d_40 : decode cJ0_equals_9ea2d 40 = .ok (.aload_n 2, 1) := by decide +kernel
theorem dJ0_equals_9ea2d_41 : decode cJ0_equals_9ea2d 41 = .ok (.getfield 9, 3) := by decide +kernel
theorem dJ0_equals_9ea2d_44 : decode cJ0_equals_9ea2d 44 = .ok (.invokestatic 541, 3) := by decide +kernel
theorem dJ0_equals_9ea2d_47 : decode cJ0_equals_9ea2d 47 = .ok (.ifCond .eq 7, 3) := by decide +kernel
theorem dJ0_equals_9ea2d_50 : decode cJ0_equals_9ea2d 50 = .ok (.iconst 1, 1) := by decide +kernel
theorem dJ0_equals_9ea2d_51 : decode cJ0_equals_9ea2d 51 = .ok (.goto 4, 3) := by decide +kernel
theorem dJ0_equals_9ea2d_54 : decode cJ0_equals_9ea2d 54 = .ok (.iconst 0, 1) := by decide +kernel
theorem dJ0_equals_9ea2d_55 : decode cJ0_equals_9ea2d 55 = .ok (.ireturn, 1) := by decide +kernel
theorem dJ0_getBytes_840e7_0 : decode cJ0_getBytes_840e7 0 = .ok (.aload_n 0, 1) := by decide +kernel
theorem dJ0_getBytes_840e7_1 : decode cJ0_getBytes_840e7 1 = .ok (.invokevirtual 335, 3) := by decide +kernel
theorem dJ0_getBytes_840e7_4 : decode cJ0_getBytes_840e7 4 = .ok (.iload_n 3, 1) := by decide +kernel
theorem dJ0_getBytes_840e7_5 : decode cJ0_getBytes_840e7 5 = .ok (.if_icmp .ne 23, 3) := by decide +kernel
theorem dJ0_getBytes_840e7_8 : decode cJ0_getBytes_840e7 8 = .ok (.aload_n 0, 1) := by decide +kernel
theorem dJ0_getBytes_840e7_9 : decode cJ0_getBytes_840e7 9 = .ok (.getfield 9, 3) := by decide +kernel
theorem dJ0_getBytes_840e7_12 : decode cJ0_getBytes_840e7 12 = .ok (.iconst 0, 1) := by decide +kernel
theorem dJ0_getBytes_840e7_13 : decode cJ0_getBytes_840e7 13 = .ok (.aload_n 1, 1) := by decide +kernel
theorem dJ0_getBytes_840e7_14 : decode cJ0_getBytes_840e7 14 = .ok (.iload_n 2, 1) := by decide +kernel
theorem dJ0_getBytes_840e7_15 : decode cJ0_getBytes_840e7 15 = .ok (.iload_n 3, 1) := by decide +kernel
theorem dJ0_getBytes_840e7_16 : decode cJ0_getBytes_840e7 16 = .ok (.ishl, 1) := by decide +kernel
theorem dJ0_getBytes_840e7_17 : decode cJ0_getBytes_840e7 17 = .ok (.aload_n 0, 1) := by decide +kernel
theorem dJ0_getBytes_840e7_18 : decode cJ0_getBytes_840e7 18 = .ok (.getfield 9, 3) := by decide +kernel
theorem dJ0_getBytes_840e7_21 : decode cJ0_getBytes_840e7 21 = .ok (.arraylength, 1) := by decide +kernel
theorem dJ0_getBytes_840e7_22 : decode cJ0_getBytes_840e7 22 = .ok (.invokestatic 212, 3) := by decide +kernel
theorem dJ0_getBytes_840e7_25 : decode cJ0_getBytes_840e7 25 = .ok (.goto 18, 3) := by decide +kernel
theorem dJ0_getBytes_840e7_28 : decode cJ0_getBytes_840e7 28 = .ok (.aload_n 0, 1) := by decide +kernel
theorem dJ0_getBytes_840e7_29 : decode cJ0_getBytes_840e7 29 = .ok (.getfield 9, 3) := by decide +kernel
theorem dJ0_getBytes_840e7_32 : decode cJ0_getBytes_840e7 32 = .ok (.iconst 0, 1) := by decide +kernel
theorem dJ0_getBytes_840e7_33 : decode cJ0_getBytes_840e7 33 = .ok (.aload_n 1, 1) := by decide +kernel
theorem dJ0_getBytes_840e7_34 : decode cJ0_getBytes_840e7 34 = .ok (.iload_n 2, 1) := by decide +kernel
theorem dJ0_getBytes_840e7_35 : decode cJ0_getBytes_840e7 35 = .ok (.aload_n 0, 1) := by decide +kernel
theorem dJ0_getBytes_840e7_36 : decode cJ0_getBytes_840e7 36 = .ok (.getfield 9, 3) := by decide +kernel
theorem dJ0_getBytes_840e7_39 : decode cJ0_getBytes_840e7 39 = .ok (.arraylength, 1) := by decide +kernel
theorem dJ0_getBytes_840e7_40 : decode cJ0_getBytes_840e7 40 = .ok (.invokestatic 106, 3) := by decide +kernel
theorem dJ0_getBytes_840e7_43 : decode cJ0_getBytes_840e7 43 = .ok (.return_, 1) := by decide +kernel
theorem dJ0_init_db425_0 : decode cJ0_init_db425 0 = .ok (.aload_n 0, 1) := by decide +kernel
theorem dJ0_init_db425_1 : decode cJ0_init_db425 1 = .ok (.invokespecial 1, 3) := by decide +kernel
theorem dJ0_init_db425_4 : decode cJ0_init_db425 4 = .ok (.aload_n 1, 1) := by decide +kernel
theorem dJ0_init_db425_5 : decode cJ0_init_db425 5 = .ok (.invokevirtual 552, 3) := by decide +kernel
theorem dJ0_init_db425_8 : decode cJ0_init_db425 8 = .ok (.astore_n 3, 1) := by decide +kernel
theorem dJ0_init_db425_9 : decode cJ0_init_db425 9 = .ok (.aload_n 1, 1) := by decide +kernel
theorem dJ0_init_db425_10 : decode cJ0_init_db425 10 = .ok (.invokevirtual 549, 3) := by decide +kernel
theorem dJ0_init_db425_13 : decode cJ0_init_db425 13 = .ok (.istore 4, 2) := by decide +kernel
theorem dJ0_init_db425_15 : decode cJ0_init_db425 15 = .ok (.aload_n 1, 1) := by decide +kernel
theorem dJ0_init_db425_16 : decode cJ0_init_db425 16 = .ok (.invokevirtual 1047, 3) := by decide +kernel
theorem dJ0_init_db425_19 : decode cJ0_init_db425 19 = .ok (.ifCond .eq 22, 3) := by decide +kernel
theorem dJ0_init_db425_22 : decode cJ0_init_db425 22 = .ok (.aload_n 0, 1) := by decide +kernel
theorem dJ0_init_db425_23 : decode cJ0_init_db425 23 = .ok (.iconst 0, 1) := by decide +kernel
theorem dJ0_init_db425_24 : decode cJ0_init_db425 24 = .ok (.putfield 15, 3) := by decide +kernel
theorem dJ0_init_db425_27 : decode cJ0_init_db425 27 = .ok (.aload_n 0, 1) := by decide +kernel
theorem dJ0_init_db425_28 : decode cJ0_init_db425 28 = .ok (.aload_n 3, 1) := by decide +kernel
theorem dJ0_init_db425_29 : decode cJ0_init_db425 29 = .ok (.iconst 0, 1) := by decide +kernel
theorem dJ0_init_db425_30 : decode cJ0_init_db425 30 = .ok (.iload 4, 2) := by decide +kernel
theorem dJ0_init_db425_32 : decode cJ0_init_db425 32 = .ok (.invokestatic 54, 3) := by decide +kernel
theorem dJ0_init_db425_35 : decode cJ0_init_db425 35 = .ok (.putfield 9, 3) := by decide +kernel
theorem dJ0_init_db425_38 : decode cJ0_init_db425 38 = .ok (.goto 59, 3) := by decide +kernel
theorem dJ0_init_db425_41 : decode cJ0_init_db425 41 = .ok (.getstatic 38, 3) := by decide +kernel
theorem dJ0_init_db425_44 : decode cJ0_init_db425 44 = .ok (.ifCond .eq 35, 3) := by decide +kernel
theorem dJ0_init_db425_47 : decode cJ0_init_db425 47 = .ok (.aload_n 1, 1) := by decide +kernel
theorem dJ0_init_db425_48 : decode cJ0_init_db425 48 = .ok (.getfield 1048, 3) := by decide +kernel
theorem dJ0_init_db425_51 : decode cJ0_init_db425 51 = .ok (.ifCond .eq 28, 3) := by decide +kernel
theorem dJ0_init_db425_54 : decode cJ0_init_db425 54 = .ok (.aload_n 0, 1) := by decide +kernel
theorem dJ0_init_db425_55 : decode cJ0_init_db425 55 = .ok (.aload_n 3, 1) := by decide +kernel
theorem dJ0_init_db425_56 : decode cJ0_init_db425 56 = .ok (.iconst 0, 1) := by decide +kernel
theorem dJ0_init_db425_57 : decode cJ0_init_db425 57 = .ok (.iload 4, 2) := by decide +kernel
theorem dJ0_init_db425_59 : decode cJ0_init_db425 59 = .ok (.invokestatic 1051, 3) := by decide +kernel
theorem dJ0_init_db425_62 : decode cJ0_init_db425 62 = .ok (.putfield 9, 3) := by decide +kernel
theorem dJ0_init_db425_65 : decode cJ0_init_db425 65 = .ok (.aload_n 0, 1) := by decide +kernel
theorem dJ0_init_db425_66 : decode cJ0_init_db425 66 = .ok (.aload_n 0, 1) := by decide +kernel
theorem dJ0_init_db425_67 : decode cJ0_init_db425 67 = .ok (.getfield 9, 3) := by decide +kernel
theorem dJ0_init_db425_70 : decode cJ0_init_db425 70 = .ok (.iload 4, 2) := by decide +kernel
theorem dJ0_init_db425_72 : decode cJ0_init_db425 72 = .ok (.invokestatic 47, 3) := by decide +kernel
theorem dJ0_init_db425_75 : decode cJ0_init_db425 75 = .ok (.putfield 15, 3) := by decide +kernel
theorem dJ0_init_db425_78 : decode cJ0_init_db425 78 = .ok (.return_, 1) := by decide +kernel
theorem dJ0_init_db425_79 : decode cJ0_init_db425 79 = .ok (.aload_n 0, 1) := by decide +kernel
theorem dJ0_init_db425_80 : decode cJ0_init_db425 80 = .ok (.iconst 1, 1) := by decide +kernel
theorem dJ0_init_db425_81 : decode cJ0_init_db425 81 = .ok (.putfield 15, 3) := by decide +kernel
theorem dJ0_init_db425_84 : decode cJ0_init_db425 84 = .ok (.aload_n 0, 1) := by decide +kernel
theorem dJ0_init_db425_85 : decode cJ0_init_db425 85 = .ok (.aload_n 3, 1) := by decide +kernel
theorem dJ0_init_db425_86 : decode cJ0_init_db425 86 = .ok (.iconst 0, 1) := by decide +kernel
theorem dJ0_init_db425_87 : decode cJ0_init_db425 87 = .ok (.iload 4, 2) := by decide +kernel
theorem dJ0_init_db425_89 : decode cJ0_init_db425 89 = .ok (.iconst 1, 1) := by decide +kernel
theorem dJ0_init_db425_90 : decode cJ0_init_db425 90 = .ok (.ishl, 1) := by decide +kernel
theorem dJ0_init_db425_91 : decode cJ0_init_db425 91 = .ok (.invokestatic 54, 3) := by decide +kernel
theorem dJ0_init_db425_94 : decode cJ0_init_db425 94 = .ok (.putfield 9, 3) := by decide +kernel
theorem dJ0_init_db425_97 : decode cJ0_init_db425 97 = .ok (.return_, 1) := by decide +kernel
theorem dJ0_coder_7d493_0 : decode cJ0_coder_7d493 0 = .ok (.getstatic 38, 3) := by decide +kernel
theorem dJ0_coder_7d493_3 : decode cJ0_coder_7d493 3 = .ok (.ifCond .eq 10, 3) := by decide +kernel
theorem dJ0_coder_7d493_6 : decode cJ0_coder_7d493 6 = .ok (.aload_n 0, 1) := by decide +kernel
theorem dJ0_coder_7d493_7 : decode cJ0_coder_7d493 7 = .ok (.getfield 15, 3) := by decide +kernel
theorem dJ0_coder_7d493_10 : decode cJ0_coder_7d493 10 = .ok (.goto 4, 3) := by decide +kernel
theorem dJ0_coder_7d493_13 : decode cJ0_coder_7d493 13 = .ok (.iconst 1, 1) := by decide +kernel
theorem dJ0_coder_7d493_14 : decode cJ0_coder_7d493 14 = .ok (.ireturn, 1) := by decide +kernel
theorem dJ0_isLatin1_aae02_0 : decode cJ0_isLatin1_aae02 0 = .ok (.getstatic 38, 3) := by decide +kernel
theorem dJ0_isLatin1_aae02_3 : decode cJ0_isLatin1_aae02 3 = .ok (.ifCond .eq 14, 3) := by decide +kernel
theorem dJ0_isLatin1_aae02_6 : decode cJ0_isLatin1_aae02 6 = .ok (.aload_n 0, 1) := by decide +kernel
theorem dJ0_isLatin1_aae02_7 : decode cJ0_isLatin1_aae02 7 = .ok (.getfield 15, 3) := by decide +kernel
theorem dJ0_isLatin1_aae02_10 : decode cJ0_isLatin1_aae02 10 = .ok (.ifCond .ne 7, 3) := by decide +kernel
theorem dJ0_isLatin1_aae02_13 : decode cJ0_isLatin1_aae02 13 = .ok (.iconst 1, 1) := by decide +kernel
theorem dJ0_isLatin1_aae02_14 : decode cJ0_isLatin1_aae02 14 = .ok (.goto 4, 3) := by decide +kernel
theorem dJ0_isLatin1_aae02_17 : decode cJ0_isLatin1_aae02 17 = .ok (.iconst 0, 1) := by decide +kernel
theorem dJ0_isLatin1_aae02_18 : decode cJ0_isLatin1_aae02 18 = .ok (.ireturn, 1) := by decide +kernel
theorem dJ0_checkIndex_df160_0 : decode cJ0_checkIndex_df160 0 = .ok (.iload_n 0, 1) := by decide +kernel
theorem dJ0_checkIndex_df160_1 : decode cJ0_checkIndex_df160 1 = .ok (.iload_n 1, 1) := by decide +kernel
theorem dJ0_checkIndex_df160_2 : decode cJ0_checkIndex_df160 2 = .ok (.getstatic 1053, 3) := by decide +kernel
theorem dJ0_checkIndex_df160_5 : decode cJ0_checkIndex_df160 5 = .ok (.invokestatic 1059, 3) := by decide +kernel
theorem dJ0_checkIndex_df160_8 : decode cJ0_checkIndex_df160 8 = .ok (.pop, 1) := by decide +kernel
theorem dJ0_checkIndex_df160_9 : decode cJ0_checkIndex_df160 9 = .ok (.return_, 1) := by decide +kernel
end
section
theorem dJ1_charAt_3b067_0 : decode cJ1_charAt_3b067 0 = .ok (.iload_n 1, 1) := by decide +kernel
theorem dJ1_charAt_3b067_1 : decode cJ1_charAt_3b067 1 = .ok (.aload_n 0, 1) := by decide +kernel
theorem dJ1_charAt_3b067_2 : decode cJ1_charAt_3b067 2 = .ok (.arraylength, 1) := by decide +kernel
theorem dJ1_charAt_3b067_3 : decode cJ1_charAt_3b067 3 = .ok (.invokestatic 9, 3) := by decide +kernel
theorem dJ1_charAt_3b067_6 : decode cJ1_charAt_3b067 6 = .ok (.aload_n 0, 1) := by decide +kernel
theorem dJ1_charAt_3b067_7 : decode cJ1_charAt_3b067 7 = .ok (.iload_n 1, 1) := by decide +kernel
theorem dJ1_charAt_3b067_8 : decode cJ1_charAt_3b067 8 = .ok (.baload, 1) := by decide +kernel
theorem dJ1_charAt_3b067_9 : decode cJ1_charAt_3b067 9 = .ok (.sipush 255, 3) := by decide +kernel
theorem dJ1_charAt_3b067_12 : decode cJ1_charAt_3b067 12 = .ok (.iand, 1) := by decide +kernel
theorem dJ1_charAt_3b067_13 : decode cJ1_charAt_3b067 13 = .ok (.i2c, 1) := by decide +kernel
theorem dJ1_charAt_3b067_14 : decode cJ1_charAt_3b067 14 = .ok (.ireturn, 1) := by decide +kernel
theorem dJ1_canEncode_fc78d_0 : decode cJ1_canEncode_fc78d 0 = .ok (.iload_n 0, 1) := by decide +kernel
theorem dJ1_canEncode_fc78d_1 : decode cJ1_canEncode_fc78d 1 = .ok (.sipush 255, 3) := by decide +kernel
theorem dJ1_canEncode_fc78d_4 : decode cJ1_canEncode_fc78d 4 = .ok (.if_icmp .gt 7, 3) := by decide +kernel
theorem dJ1_canEncode_fc78d_7 : decode cJ1_canEncode_fc78d 7 = .ok (.iconst 1, 1) := by decide +kernel
theorem dJ1_canEncode_fc78d_8 : decode cJ1_canEncode_fc78d 8 = .ok (.goto 4, 3) := by decide +kernel
theorem dJ1_canEncode_fc78d_11 : decode cJ1_canEncode_fc78d 11 = .ok (.iconst 0, 1) := by decide +kernel
theorem dJ1_canEncode_fc78d_12 : decode cJ1_canEncode_fc78d 12 = .ok (.ireturn, 1) := by decide +kernel
theorem dJ1_equals_b5fdf_0 : decode cJ1_equals_b5fdf 0 = .ok (.aload_n 0, 1) := by decide +kernel
theorem dJ1_equals_b5fdf_1 : decode cJ1_equals_b5fdf 1 = .ok (.arraylength, 1) := by decide +kernel
theorem dJ1_equals_b5fdf_2 : decode cJ1_equals_b5fdf 2 = .ok (.aload_n 1, 1) := by decide +kernel
theorem dJ1_equals_b5fdf_3 : decode cJ1_equals_b5fdf 3 = .ok (.arraylength, 1) := by decide +kernel
theorem dJ1_equals_b5fdf_4 : decode cJ1_equals_b5fdf 4 = .ok (.if_icmp .ne 30, 3) := by decide +kernel
theorem dJ1_equals_b5fdf_7 : decode cJ1_equals_b5fdf 7 = .ok (.iconst 0, 1) := by decide +kernel
theorem dJ1_equals_b5fdf_8 : decode cJ1_equals_b5fdf 8 = .ok (.istore_n 2, 1) := by decide +kernel
theorem dJ1_equals_b5fdf_9 : decode cJ1_equals_b5fdf 9 = .ok (.iload_n 2, 1) := by decide +kernel
theorem dJ1_equals_b5fdf_10 : decode cJ1_equals_b5fdf 10 = .ok (.aload_n 0, 1) := by decide +kernel
theorem dJ1_equals_b5fdf_11 : decode cJ1_equals_b5fdf 11 = .ok (.arraylength, 1) := by decide +kernel
theorem dJ1_equals_b5fdf_12 : decode cJ1_equals_b5fdf 12 = .ok (.if_icmp .ge 20, 3) := by decide +kernel
theorem dJ1_equals_b5fdf_15 : decode cJ1_equals_b5fdf 15 = .ok (.aload_n 0, 1) := by decide +kernel
theorem dJ1_equals_b5fdf_16 : decode cJ1_equals_b5fdf 16 = .ok (.iload_n 2, 1) := by decide +kernel
theorem dJ1_equals_b5fdf_17 : decode cJ1_equals_b5fdf 17 = .ok (.baload, 1) := by decide +kernel
theorem dJ1_equals_b5fdf_18 : decode cJ1_equals_b5fdf 18 = .ok (.aload_n 1, 1) := by decide +kernel
theorem dJ1_equals_b5fdf_19 : decode cJ1_equals_b5fdf 19 = .ok (.iload_n 2, 1) := by decide +kernel
theorem dJ1_equals_b5fdf_20 : decode cJ1_equals_b5fdf 20 = .ok (.baload, 1) := by decide +kernel
theorem dJ1_equals_b5fdf_21 : decode cJ1_equals_b5fdf 21 = .ok (.if_icmp .eq 5, 3) := by decide +kernel
theorem dJ1_equals_b5fdf_24 : decode cJ1_equals_b5fdf 24 = .ok (.iconst 0, 1) := by decide +kernel
theorem dJ1_equals_b5fdf_25 : decode cJ1_equals_b5fdf 25 = .ok (.ireturn, 1) := by decide +kernel
theorem dJ1_equals_b5fdf_26 : decode cJ1_equals_b5fdf 26 = .ok (.iinc 2 1, 3) := by decide +kernel
theorem dJ1_equals_b5fdf_29 : decode cJ1_equals_b5fdf 29 = .ok (.goto (-20), 3) := by decide +kernel
theorem dJ1_equals_b5fdf_32 : decode cJ1_equals_b5fdf 32 = .ok (.iconst 1, 1) := by decide +kernel
theorem dJ1_equals_b5fdf_33 : decode cJ1_equals_b5fdf 33 = .ok (.ireturn, 1) := by decide +kernel
theorem dJ1_equals_b5fdf_34 : decode cJ1_equals_b5fdf 34 = .ok (.iconst 0, 1) := by decide +kernel
theorem dJ1_equals_b5fdf_35 : decode cJ1_equals_b5fdf 35 = .ok (.ireturn, 1) := by decide +kernel
end
section
theorem dJ3_checkIndex_8e157_0 : decode cJ3_checkIndex_8e157 0 = .ok (.iload_n 0, 1) := by decide +kernel
theorem dJ3_checkIndex_8e157_1 : decode cJ3_checkIndex_8e157 1 = .ok (.ifCond .lt 8, 3) := by decide +kernel
theorem dJ3_checkIndex_8e157_4 : decode cJ3_checkIndex_8e157 4 = .ok (.iload_n 0, 1) := by decide +kernel
theorem dJ3_checkIndex_8e157_5 : decode cJ3_checkIndex_8e157 5 = .ok (.iload_n 1, 1) := by decide +kernel
theorem dJ3_checkIndex_8e157_6 : decode cJ3_checkIndex_8e157 6 = .ok (.if_icmp .lt 10, 3) := by decide +kernel
theorem dJ3_checkIndex_8e157_9 : decode cJ3_checkIndex_8e157 9 = .ok (.aload_n 2, 1) := by decide +kernel
theorem dJ3_checkIndex_8e157_10 : decode cJ3_checkIndex_8e157 10 = .ok (.iload_n 0, 1) := by decide +kernel
theorem dJ3_checkIndex_8e157_11 : decode cJ3_checkIndex_8e157 11 = .ok (.iload_n 1, 1) := by decide +kernel
theorem dJ3_checkIndex_8e157_12 : decode cJ3_checkIndex_8e157 12 = .ok (.invokestatic 95, 3) := by decide +kernel
theorem dJ3_checkIndex_8e157_15 : decode cJ3_checkIndex_8e157 15 = .ok (.athrow, 1) := by decide +kernel
theorem dJ3_checkIndex_8e157_16 : decode cJ3_checkIndex_8e157 16 = .ok (.iload_n 0, 1) := by decide +kernel
theorem dJ3_checkIndex_8e157_17 : decode cJ3_checkIndex_8e157 17 = .ok (.ireturn, 1) := by decide +kernel
end
section
theorem dJ4_init_da8c8_0 : decode cJ4_init_da8c8 0 = .ok (.aload_n 0, 1) := by decide +kernel
theorem dJ4_init_da8c8_1 : decode cJ4_init_da8c8 1 = .ok (.bipush 16, 2) := by decide +kernel
theorem dJ4_init_da8c8_3 : decode cJ4_init_da8c8 3 = .ok (.invokespecial 1, 3) := by decide +kernel
theorem dJ4_init_da8c8_6 : decode cJ4_init_da8c8 6 = .ok (.return_, 1) := by decide +kernel
theorem dJ4_append_15ec4_0 : decode cJ4_append_15ec4 0 = .ok (.aload_n 0, 1) := by decide +kernel
theorem dJ4_append_15ec4_1 : decode cJ4_append_15ec4 1 = .ok (.aload_n 1, 1) := by decide +kernel
theorem dJ4_append_15ec4_2 : decode cJ4_append_15ec4 2 = .ok (.invokespecial 29, 3) := by decide +kernel
theorem dJ4_append_15ec4_5 : decode cJ4_append_15ec4 5 = .ok (.pop, 1) := by decide +kernel
theorem dJ4_append_15ec4_6 : decode cJ4_append_15ec4 6 = .ok (.aload_n 0, 1) := by decide +kernel
theorem dJ4_append_15ec4_7 : decode cJ4_append_15ec4 7 = .ok (.areturn, 1) := by decide +kernel
theorem dJ4_append_cf468_0 : decode cJ4_append_cf468 0 = .ok (.aload_n 0, 1) := by decide +kernel
theorem dJ4_append_cf468_1 : decode cJ4_append_cf468 1 = .ok (.iload_n 1, 1) := by decide +kernel
theorem dJ4_append_cf468_2 : decode cJ4_append_cf468 2 = .ok (.invokespecial 50, 3) := by decide +kernel
theorem dJ4_append_cf468_5 : decode cJ4_append_cf468 5 = .ok (.pop, 1) := by decide +kernel
theorem dJ4_append_cf468_6 : decode cJ4_append_cf468 6 = .ok (.aload_n 0, 1) := by decide +kernel
theorem dJ4_append_cf468_7 : decode cJ4_append_cf468 7 = .ok (.areturn, 1) := by decide +kernel
theorem dJ4_append_bf812_0 : decode cJ4_append_bf812 0 = .ok (.aload_n 0, 1) := by decide +kernel
theorem dJ4_append_bf812_1 : decode cJ4_append_bf812 1 = .ok (.iload_n 1, 1) := by decide +kernel
theorem dJ4_append_bf812_2 : decode cJ4_append_bf812 2 = .ok (.invokespecial 53, 3) := by decide +kernel
theorem dJ4_append_bf812_5 : decode cJ4_append_bf812 5 = .ok (.pop, 1) := by decide +kernel
theorem dJ4_append_bf812_6 : decode cJ4_append_bf812 6 = .ok (.aload_n 0, 1) := by decide +kernel
theorem dJ4_append_bf812_7 : decode cJ4_append_bf812 7 = .ok (.areturn, 1) := by decide +kernel
theorem dJ4_toString_0e30d_0 : decode cJ4_toString_0e30d 0 = .ok (.new 18, 3) := by decide +kernel
theorem dJ4_toString_0e30d_3 : decode cJ4_toString_0e30d 3 = .ok (.dup, 1) := by decide +kernel
theorem dJ4_toString_0e30d_4 : decode cJ4_toString_0e30d 4 = .ok (.aload_n 0, 1) := by decide +kernel
theorem dJ4_toString_0e30d_5 : decode cJ4_toString_0e30d 5 = .ok (.invokespecial 137, 3) := by decide +kernel
theorem dJ4_toString_0e30d_8 : decode cJ4_toString_0e30d 8 = .ok (.areturn, 1) := by decide +kernel
theorem dJ4_length_8abf5_0 : decode cJ4_length_8abf5 0 = .ok (.aload_n 0, 1) := by decide +kernel
theorem dJ4_length_8abf5_1 : decode cJ4_length_8abf5 1 = .ok (.invokespecial 343, 3) := by decide +kernel
theorem dJ4_length_8abf5_4 : decode cJ4_length_8abf5 4 = .ok (.ireturn, 1) := by decide +kernel
end
section
theorem dJ5_init_d00df_0 : decode cJ5_init_d00df 0 = .ok (.aload_n 0, 1) := by decide +kernel
theorem dJ5_init_d00df_1 : decode cJ5_init_d00df 1 = .ok (.invokespecial 3, 3) := by decide +kernel
theorem dJ5_init_d00df_4 : decode cJ5_init_d00df 4 = .ok (.getstatic 18, 3) := by decide +kernel
theorem dJ5_init_d00df_7 : decode cJ5_init_d00df 7 = .ok (.ifCond .eq 18, 3) := by decide +kernel
theorem dJ5_init_d00df_10 : decode cJ5_init_d00df 10 = .ok (.aload_n 0, 1) := by decide +kernel
theorem dJ5_init_d00df_11 : decode cJ5_init_d00df 11 = .ok (.iload_n 1, 1) := by decide +kernel
theorem dJ5_init_d00df_12 : decode cJ5_init_d00df 12 = .ok (.newarray .byte, 2) := by decide +kernel
theorem dJ5_init_d00df_14 : decode cJ5_init_d00df 14 = .ok (.putfield 15, 3) := by decide +kernel
theorem dJ5_init_d00df_17 : decode cJ5_init_d00df 17 = .ok (.aload_n 0, 1) := by decide +kernel
theorem dJ5_init_d00df_18 : decode cJ5_init_d00df 18 = .ok (.iconst 0, 1) := by decide +kernel
theorem dJ5_init_d00df_19 : decode cJ5_init_d00df 19 = .ok (.putfield 22, 3) := by decide +kernel
theorem dJ5_init_d00df_22 : decode cJ5_init_d00df 22 = .ok (.goto 16, 3) := by decide +kernel
theorem dJ5_init_d00df_25 : decode cJ5_init_d00df 25 = .ok (.aload_n 0, 1) := by decide +kernel
theorem dJ5_init_d00df_26 : decode cJ5_init_d00df 26 = .ok (.iload_n 1, 1) := by decide +kernel
theorem dJ5_init_d00df_27 : decode cJ5_init_d00df 27 = .ok (.invokestatic 26, 3) := by decide +kernel
theorem dJ5_init_d00df_30 : decode cJ5_init_d00df 30 = .ok (.putfield 15, 3) := by decide +kernel
theorem dJ5_init_d00df_33 : decode cJ5_init_d00df 33 = .ok (.aload_n 0, 1) := by decide +kernel
theorem dJ5_init_d00df_34 : decode cJ5_init_d00df 34 = .ok (.iconst 1, 1) := by decide +kernel
theorem dJ5_init_d00df_35 : decode cJ5_init_d00df 35 = .ok (.putfield 22, 3) := by decide +kernel
theorem dJ5_init_d00df_38 : decode cJ5_init_d00df 38 = .ok (.return_, 1) := by decide +kernel
theorem dJ5_length_8abf5_0 : decode cJ5_length_8abf5 0 = .ok (.aload_n 0, 1) := by decide +kernel
theorem dJ5_length_8abf5_1 : decode cJ5_length_8abf5 1 = .ok (.getfield 79, 3) := by decide +kernel
theorem dJ5_length_8abf5_4 : decode cJ5_length_8abf5 4 = .ok (.ireturn, 1) := by decide +kernel
theorem dJ5_ensureCapacityInternal_d00df_0 : decode cJ5_ensureCapacityInternal_d00df 0 = .ok (.aload_n 0, 1) := by decide +kernel
theorem dJ5_ensureCapacityInternal_d00df_1 : decode cJ5_ensureCapacityInternal_d00df 1 = .ok (.getfield 15, 3) := by decide +kernel
theorem dJ5_ensureCapacityInternal_d00df_4 : decode cJ5_ensureCapacityInternal_d00df 4 = .ok (.arraylength, 1) := by decide +kernel
theorem dJ5_ensureCapacityInternal_d00df_5 : decode cJ5_ensureCapacityInternal_d00df 5 = .ok (.aload_n 0, 1) := by decide +kernel
theorem dJ5_ensureCapacityInternal_d00df_6 : decode cJ5_ensureCapacityInternal_d00df 6 = .ok (.getfield 22, 3) := by decide +kernel
theorem dJ5_ensureCapacityInternal_d00df_9 : decode cJ5_ensureCapacityInternal_d00df 9 = .ok (.ishr, 1) := by decide +kernel
theorem dJ5_ensureCapacityInternal_d00df_10 : decode cJ5_ensureCapacityInternal_d00df 10 = .ok (.istore_n 2, 1) := by decide +kernel
theorem dJ5_ensureCapacityInternal_d00df_11 : decode cJ5_ensureCapacityInternal_d00df 11 = .ok (.iload_n 1, 1) := by decide +kernel
theorem dJ5_ensureCapacityInternal_d00df_12 : decode cJ5_ensureCapacityInternal_d00df 12 = .ok (.iload_n 2, 1) := by decide +kernel
theorem dJ5_ensureCapacityInternal_d00df_13 : decode cJ5_ensureCapacityInternal_d00df 13 = .ok (.isub, 1) := by decide +kernel
theorem dJ5_ensureCapacityInternal_d00df_14 : decode cJ5_ensureCapacityInternal_d00df 14 = .ok (.ifCond .le 24, 3) := by decide +kernel
theorem dJ5_ensureCapacityInternal_d00df_17 : decode cJ5_ensureCapacityInternal_d00df 17 = .ok (.aload_n 0, 1) := by decide +kernel
theorem dJ5_ensureCapacityInternal_d00df_18 : decode cJ5_ensureCapacityInternal_d00df 18 = .ok (.aload_n 0, 1) := by decide +kernel
theorem dJ5_ensureCapacityInternal_d00df_19 : decode cJ5_ensureCapacityInternal_d00df 19 = .ok (.getfield 15, 3) := by decide +kernel
theorem dJ5_ensureCapacityInternal_d00df_22 : decode cJ5_ensureCapacityInternal_d00df 22 = .ok (.aload_n 0, 1) := by decide +kernel
theorem dJ5_ensureCapacityInternal_d00df_23 : decode cJ5_ensureCapacityInternal_d00df 23 = .ok (.iload_n 1, 1) := by decide +kernel
theorem dJ5_ensureCapacityInternal_d00df_24 : decode cJ5_ensureCapacityInternal_d00df 24 = .ok (.invokevirtual 104, 3) := by decide +kernel
theorem dJ5_ensureCapacityInternal_d00df_27 : decode cJ5_ensureCapacityInternal_d00df 27 = .ok (.aload_n 0, 1) := by decide +kernel
theorem dJ5_ensureCapacityInternal_d00df_28 : decode cJ5_ensureCapacityInternal_d00df 28 = .ok (.getfield 22, 3) := by decide +kernel
theorem dJ5_ensureCapacityInternal_d00df_31 : decode cJ5_ensureCapacityInternal_d00df 31 = .ok (.ishl, 1) := by decide +kernel
theorem dJ5_ensureCapacityInternal_d00df_32 : decode cJ5_ensureCapacityInternal_d00df 32 = .ok (.invokestatic 108, 3) := by decide +kernel
theorem dJ5_ensureCapacityInternal_d00df_35 : decode cJ5_ensureCapacityInternal_d00df 35 = .ok (.putfield 15, 3) := by decide +kernel
theorem dJ5_ensureCapacityInternal_d00df_38 : decode cJ5_ensureCapacityInternal_d00df 38 = .ok (.return_, 1) := by decide +kernel
theorem dJ5_newCapacity_0f7a4_0 : decode cJ5_newCapacity_0f7a4 0 = .ok (.aload_n 0, 1) := by decide +kernel
theorem dJ5_newCapacity_0f7a4_1 : decode cJ5_newCapacity_0f7a4 1 = .ok (.getfield 15, 3) := by decide +kernel
theorem dJ5_newCapacity_0f7a4_4 : decode cJ5_newCapacity_0f7a4 4 = .ok (.arraylength, 1) := by decide +kernel
theorem dJ5_newCapacity_0f7a4_5 : decode cJ5_newCapacity_0f7a4 5 = .ok (.istore_n 2, 1) := by decide +kernel
theorem dJ5_newCapacity_0f7a4_6 : decode cJ5_newCapacity_0f7a4 6 = .ok (.iload_n 1, 1) := by decide +kernel
theorem dJ5_newCapacity_0f7a4_7 : decode cJ5_newCapacity_0f7a4 7 = .ok (.aload_n 0, 1) := by decide +kernel
theorem dJ5_newCapacity_0f7a4_8 : decode cJ5_newCapacity_0f7a4 8 = .ok (.getfield 22, 3) := by decide +kernel
theorem dJ5_newCapacity_0f7a4_11 : decode cJ5_newCapacity_0f7a4 11 = .ok (.ishl, 1) := by decide +kernel
theorem dJ5_newCapacity_0f7a4_12 : decode cJ5_newCapacity_0f7a4 12 = .ok (.istore_n 3, 1) := by decide +kernel
theorem dJ5_newCapacity_0f7a4_13 : decode cJ5_newCapacity_0f7a4 13 = .ok (.iload_n 3, 1) := by decide +kernel
theorem dJ5_newCapacity_0f7a4_14 : decode cJ5_newCapacity_0f7a4 14 = .ok (.iload_n 2, 1) := by decide +kernel
theorem dJ5_newCapacity_0f7a4_15 : decode cJ5_newCapacity_0f7a4 15 = .ok (.isub, 1) := by decide +kernel
theorem dJ5_newCapacity_0f7a4_16 : decode cJ5_newCapacity_0f7a4 16 = .ok (.istore 4, 2) := by decide +kernel
theorem dJ5_newCapacity_0f7a4_18 : decode cJ5_newCapacity_0f7a4 18 = .ok (.iload_n 2, 1) := by decide +kernel
theorem dJ5_newCapacity_0f7a4_19 : decode cJ5_newCapacity_0f7a4 19 = .ok (.iload 4, 2) := by decide +kernel
theorem dJ5_newCapacity_0f7a4_21 : decode cJ5_newCapacity_0f7a4 21 = .ok (.iload_n 2, 1) := by decide +kernel
theorem dJ5_newCapacity_0f7a4_22 : decode cJ5_newCapacity_0f7a4 22 = .ok (.iconst 2, 1) := by decide +kernel
theorem dJ5_newCapacity_0f7a4_23 : decode cJ5_newCapacity_0f7a4 23 = .ok (.aload_n 0, 1) := by decide +kernel
theorem dJ5_newCapacity_0f7a4_24 : decode cJ5_newCapacity_0f7a4 24 = .ok (.getfield 22, 3) := by decide +kernel
theorem dJ5_newCapacity_0f7a4_27 : decode cJ5_newCapacity_0f7a4 27 = .ok (.ishl, 1) := by decide +kernel
theorem dJ5_newCapacity_0f7a4_28 : decode cJ5_newCapacity_0f7a4 28 = .ok (.iadd, 1) := by decide +kernel
theorem dJ5_newCapacity_0f7a4_29 : decode cJ5_newCapacity_0f7a4 29 = .ok (.invokestatic 114, 3) := by decide +kernel
theorem dJ5_newCapacity_0f7a4_32 : decode cJ5_newCapacity_0f7a4 32 = .ok (.istore 5, 2) := by decide +kernel
theorem dJ5_newCapacity_0f7a4_34 : decode cJ5_newCapacity_0f7a4 34 = .ok (.iload 5, 2) := by decide +kernel
theorem dJ5_newCapacity_0f7a4_36 : decode cJ5_newCapacity_0f7a4 36 = .ok (.ldc 39, 2) := by decide +kernel
theorem dJ5_newCapacity_0f7a4_38 : decode cJ5_newCapacity_0f7a4 38 = .ok (.if_icmp .ne 13, 3) := by decide +kernel
theorem dJ5_newCapacity_0f7a4_41 : decode cJ5_newCapacity_0f7a4 41 = .ok (.new 120, 3) := by decide +kernel
theorem dJ5_newCapacity_0f7a4_44 : decode cJ5_newCapacity_0f7a4 44 = .ok (.dup, 1) := by decide +kernel
theorem dJ5_newCapacity_0f7a4_45 : decode cJ5_newCapacity_0f7a4 45 = .ok (.ldc 122, 2) := by decide +kernel
theorem dJ5_newCapacity_0f7a4_47 : decode cJ5_newCapacity_0f7a4 47 = .ok (.invokespecial 124, 3) := by decide +kernel
theorem dJ5_newCapacity_0f7a4_50 : decode cJ5_newCapacity_0f7a4 50 = .ok (.athrow, 1) := by decide +kernel
theorem dJ5_newCapacity_0f7a4_51 : decode cJ5_newCapacity_0f7a4 51 = .ok (.iload 5, 2) := by decide +kernel
theorem dJ5_newCapacity_0f7a4_53 : decode cJ5_newCapacity_0f7a4 53 = .ok (.aload_n 0, 1) := by decide +kernel
theorem dJ5_newCapacity_0f7a4_54 : decode cJ5_newCapacity_0f7a4 54 = .ok (.getfield 22, 3) := by decide +kernel
theorem dJ5_newCapacity_0f7a4_57 : decode cJ5_newCapacity_0f7a4 57 = .ok (.ishr, 1) := by decide +kernel
theorem dJ5_newCapacity_0f7a4_58 : decode cJ5_newCapacity_0f7a4 58 = .ok (.ireturn, 1) := by decide +kernel
theorem dJ5_append_cf1ce_0 : decode cJ5_append_cf1ce 0 = .ok (.aload_n 1, 1) := by decide +kernel
theorem dJ5_append_cf1ce_1 : decode cJ5_append_cf1ce 1 = .ok (.ifnonnull 8, 3) := by decide +kernel
theorem dJ5_append_cf1ce_4 : decode cJ5_append_cf1ce 4 = .ok (.aload_n 0, 1) := by decide +kernel
theorem dJ5_append_cf1ce_5 : decode cJ5_append_cf1ce 5 = .ok (.invokevirtual 204, 3) := by decide +kernel
theorem dJ5_append_cf1ce_8 : decode cJ5_append_cf1ce 8 = .ok (.areturn, 1) := by decide +kernel
theorem dJ5_append_cf1ce_9 : decode cJ5_append_cf1ce 9 = .ok (.aload_n 1, 1) := by decide +kernel
theorem dJ5_append_cf1ce_10 : decode cJ5_append_cf1ce 10 = .ok (.invokevirtual 32, 3) := by decide +kernel
theorem dJ5_append_cf1ce_13 : decode cJ5_append_cf1ce 13 = .ok (.istore_n 2, 1) := by decide +kernel
theorem dJ5_append_cf1ce_14 : decode cJ5_append_cf1ce 14 = .ok (.aload_n 0, 1) := by decide +kernel
theorem dJ5_append_cf1ce_15 : decode cJ5_append_cf1ce 15 = .ok (.aload_n 0, 1) := by decide +kernel
theorem dJ5_append_cf1ce_16 : decode cJ5_append_cf1ce 16 = .ok (.getfield 79, 3) := by decide +kernel
theorem dJ5_append_cf1ce_19 : decode cJ5_append_cf1ce 19 = .ok (.iload_n 2, 1) := by decide +kernel
theorem dJ5_append_cf1ce_20 : decode cJ5_append_cf1ce 20 = .ok (.iadd, 1) := by decide +kernel
theorem dJ5_append_cf1ce_21 : decode cJ5_append_cf1ce 21 = .ok (.invokevirtual 100, 3) := by decide +kernel
theorem dJ5_append_cf1ce_24 : decode cJ5_append_cf1ce 24 = .ok (.aload_n 0, 1) := by decide +kernel
theorem dJ5_append_cf1ce_25 : decode cJ5_append_cf1ce 25 = .ok (.aload_n 0, 1) := by decide +kernel
theorem dJ5_append_cf1ce_26 : decode cJ5_append_cf1ce 26 = .ok (.getfield 79, 3) := by decide +kernel
theorem dJ5_append_cf1ce_29 : decode cJ5_append_cf1ce 29 = .ok (.aload_n 1, 1) := by decide +kernel
theorem dJ5_append_cf1ce_30 : decode cJ5_append_cf1ce 30 = .ok (.invokevirtual 208, 3) := by decide +kernel
theorem dJ5_append_cf1ce_33 : decode cJ5_append_cf1ce 33 = .ok (.aload_n 0, 1) := by decide +kernel
theorem dJ5_append_cf1ce_34 : decode cJ5_append_cf1ce 34 = .ok (.dup, 1) := by decide +kernel
theorem dJ5_append_cf1ce_35 : decode cJ5_append_cf1ce 35 = .ok (.getfield 79, 3) := by decide +kernel
theorem dJ5_append_cf1ce_38 : decode cJ5_append_cf1ce 38 = .ok (.iload_n 2, 1) := by decide +kernel
theorem dJ5_append_cf1ce_39 : decode cJ5_append_cf1ce 39 = .ok (.iadd, 1) := by decide +kernel
theorem dJ5_append_cf1ce_40 : decode cJ5_append_cf1ce 40 = .ok (.putfield 79, 3) := by decide +kernel
theorem dJ5_append_cf1ce_43 : decode cJ5_append_cf1ce 43 = .ok (.aload_n 0, 1) := by decide +kernel
theorem dJ5_append_cf1ce_44 : decode cJ5_append_cf1ce 44 = .ok (.areturn, 1) := by decide +kernel
theorem dJ5_append_3fe6f_0 : decode cJ5_append_3fe6f 0 = .ok (.aload_n 0, 1) := by decide +kernel
theorem dJ5_append_3fe6f_1 : decode cJ5_append_3fe6f 1 = .ok (.aload_n 0, 1) := by decide +kernel
theorem dJ5_append_3fe6f_2 : decode cJ5_append_3fe6f 2 = .ok (.getfield 79, 3) := by decide +kernel
theorem dJ5_append_3fe6f_5 : decode cJ5_append_3fe6f 5 = .ok (.iconst 1, 1) := by decide +kernel
theorem dJ5_append_3fe6f_6 : decode cJ5_append_3fe6f 6 = .ok (.iadd, 1) := by decide +kernel
theorem dJ5_append_3fe6f_7 : decode cJ5_append_3fe6f 7 = .ok (.invokevirtual 100, 3) := by decide +kernel
theorem dJ5_append_3fe6f_10 : decode cJ5_append_3fe6f 10 = .ok (.aload_n 0, 1) := by decide +kernel
theorem dJ5_append_3fe6f_11 : decode cJ5_append_3fe6f 11 = .ok (.invokevirtual 83, 3) := by decide +kernel
theorem dJ5_append_3fe6f_14 : decode cJ5_append_3fe6f 14 = .ok (.ifCond .eq 31, 3) := by decide +kernel
theorem dJ5_append_3fe6f_17 : decode cJ5_append_3fe6f 17 = .ok (.iload_n 1, 1) := by decide +kernel
theorem dJ5_append_3fe6f_18 : decode cJ5_append_3fe6f 18 = .ok (.invokestatic 191, 3) := by decide +kernel
theorem dJ5_append_3fe6f_21 : decode cJ5_append_3fe6f 21 = .ok (.ifCond .eq 24, 3) := by decide +kernel
theorem dJ5_append_3fe6f_24 : decode cJ5_append_3fe6f 24 = .ok (.aload_n 0, 1) := by decide +kernel
theorem dJ5_append_3fe6f_25 : decode cJ5_append_3fe6f 25 = .ok (.getfield 15, 3) := by decide +kernel
theorem dJ5_append_3fe6f_28 : decode cJ5_append_3fe6f 28 = .ok (.aload_n 0, 1) := by decide +kernel
theorem dJ5_append_3fe6f_29 : decode cJ5_append_3fe6f 29 = .ok (.dup, 1) := by decide +kernel
theorem dJ5_append_3fe6f_30 : decode cJ5_append_3fe6f 30 = .ok (.getfield 79, 3) := by decide +kernel
theorem dJ5_append_3fe6f_33 : decode cJ5_append_3fe6f 33 = .ok (.dup_x1, 1) := by decide +kernel
theorem dJ5_append_3fe6f_34 : decode cJ5_append_3fe6f 34 = .ok (.iconst 1, 1) := by decide +kernel
theorem dJ5_append_3fe6f_35 : decode cJ5_append_3fe6f 35 = .ok (.iadd, 1) := by decide +kernel
theorem dJ5_append_3fe6f_36 : decode cJ5_append_3fe6f 36 = .ok (.putfield 79, 3) := by decide +kernel
theorem dJ5_append_3fe6f_39 : decode cJ5_append_3fe6f 39 = .ok (.iload_n 1, 1) := by decide +kernel
theorem dJ5_append_3fe6f_40 : decode cJ5_append_3fe6f 40 = .ok (.i2b, 1) := by decide +kernel
theorem dJ5_append_3fe6f_41 : decode cJ5_append_3fe6f 41 = .ok (.bastore, 1) := by decide +kernel
theorem dJ5_append_3fe6f_42 : decode cJ5_append_3fe6f 42 = .ok (.goto 33, 3) := by decide +kernel
theorem dJ5_append_3fe6f_45 : decode cJ5_append_3fe6f 45 = .ok (.aload_n 0, 1) := by decide +kernel
theorem dJ5_append_3fe6f_46 : decode cJ5_append_3fe6f 46 = .ok (.invokevirtual 83, 3) := by decide +kernel
theorem dJ5_append_3fe6f_49 : decode cJ5_append_3fe6f 49 = .ok (.ifCond .eq 7, 3) := by decide +kernel
theorem dJ5_append_3fe6f_52 : decode cJ5_append_3fe6f 52 = .ok (.aload_n 0, 1) := by decide +kernel
theorem dJ5_append_3fe6f_53 : decode cJ5_append_3fe6f 53 = .ok (.invokevirtual 195, 3) := by decide +kernel
theorem dJ5_append_3fe6f_56 : decode cJ5_append_3fe6f 56 = .ok (.aload_n 0, 1) := by decide +kernel
theorem dJ5_append_3fe6f_57 : decode cJ5_append_3fe6f 57 = .ok (.getfield 15, 3) := by decide +kernel
theorem dJ5_append_3fe6f_60 : decode cJ5_append_3fe6f 60 = .ok (.aload_n 0, 1) := by decide +kernel
theorem dJ5_append_3fe6f_61 : decode cJ5_append_3fe6f 61 = .ok (.dup, 1) := by decide +kernel
theorem dJ5_append_3fe6f_62 : decode cJ5_append_3fe6f 62 = .ok (.getfield 79, 3) := by decide +kernel
theorem dJ5_append_3fe6f_65 : decode cJ5_append_3fe6f 65 = .ok (.dup_x1, 1) := by decide +kernel
theorem dJ5_append_3fe6f_66 : decode cJ5_append_3fe6f 66 = .ok (.iconst 1, 1) := by decide +kernel
theorem dJ5_append_3fe6f_67 : decode cJ5_append_3fe6f 67 = .ok (.iadd, 1) := by decide +kernel
theorem dJ5_append_3fe6f_68 : decode cJ5_append_3fe6f 68 = .ok (.putfield 79, 3) := by decide +kernel
theorem dJ5_append_3fe6f_71 : decode cJ5_append_3fe6f 71 = .ok (.iload_n 1, 1) := by decide +kernel
theorem dJ5_append_3fe6f_72 : decode cJ5_append_3fe6f 72 = .ok (.invokestatic 197, 3) := by decide +kernel
theorem dJ5_append_3fe6f_75 : decode cJ5_append_3fe6f 75 = .ok (.aload_n 0, 1) := by decide +kernel
theorem dJ5_append_3fe6f_76 : decode cJ5_append_3fe6f 76 = .ok (.areturn, 1) := by decide +kernel
theorem dJ5_append_c97b9_0 : decode cJ5_append_c97b9 0 = .ok (.aload_n 0, 1) := by decide +kernel
theorem dJ5_append_c97b9_1 : decode cJ5_append_c97b9 1 = .ok (.getfield 79, 3) := by decide +kernel
theorem dJ5_append_c97b9_4 : decode cJ5_append_c97b9 4 = .ok (.istore_n 2, 1) := by decide +kernel
theorem dJ5_append_c97b9_5 : decode cJ5_append_c97b9 5 = .ok (.iload_n 2, 1) := by decide +kernel
theorem dJ5_append_c97b9_6 : decode cJ5_append_c97b9 6 = .ok (.iload_n 1, 1) := by decide +kernel
theorem dJ5_append_c97b9_7 : decode cJ5_append_c97b9 7 = .ok (.invokestatic 245, 3) := by decide +kernel
theorem dJ5_append_c97b9_10 : decode cJ5_append_c97b9 10 = .ok (.iadd, 1) := by decide +kernel
theorem dJ5_append_c97b9_11 : decode cJ5_append_c97b9 11 = .ok (.istore_n 3, 1) := by decide +kernel
theorem dJ5_append_c97b9_12 : decode cJ5_append_c97b9 12 = .ok (.aload_n 0, 1) := by decide +kernel
theorem dJ5_append_c97b9_13 : decode cJ5_append_c97b9 13 = .ok (.iload_n 3, 1) := by decide +kernel
theorem dJ5_append_c97b9_14 : decode cJ5_append_c97b9 14 = .ok (.invokevirtual 100, 3) := by decide +kernel
theorem dJ5_append_c97b9_17 : decode cJ5_append_c97b9 17 = .ok (.aload_n 0, 1) := by decide +kernel
theorem dJ5_append_c97b9_18 : decode cJ5_append_c97b9 18 = .ok (.invokevirtual 83, 3) := by decide +kernel
theorem dJ5_append_c97b9_21 : decode cJ5_append_c97b9 21 = .ok (.ifCond .eq 16, 3) := by decide +kernel
theorem dJ5_append_c97b9_24 : decode cJ5_append_c97b9 24 = .ok (.iload_n 1, 1) := by decide +kernel
theorem dJ5_append_c97b9_25 : decode cJ5_append_c97b9 25 = .ok (.iload_n 3, 1) := by decide +kernel
theorem dJ5_append_c97b9_26 : decode cJ5_append_c97b9 26 = .ok (.aload_n 0, 1) := by decide +kernel
theorem dJ5_append_c97b9_27 : decode cJ5_append_c97b9 27 = .ok (.getfield 15, 3) := by decide +kernel
theorem dJ5_append_c97b9_30 : decode cJ5_append_c97b9 30 = .ok (.invokestatic 248, 3) := by decide +kernel
theorem dJ5_append_c97b9_33 : decode cJ5_append_c97b9 33 = .ok (.pop, 1) := by decide +kernel
theorem dJ5_append_c97b9_34 : decode cJ5_append_c97b9 34 = .ok (.goto 14, 3) := by decide +kernel
theorem dJ5_append_c97b9_37 : decode cJ5_append_c97b9 37 = .ok (.iload_n 1, 1) := by decide +kernel
theorem dJ5_append_c97b9_38 : decode cJ5_append_c97b9 38 = .ok (.iload_n 2, 1) := by decide +kernel
theorem dJ5_append_c97b9_39 : decode cJ5_append_c97b9 39 = .ok (.iload_n 3, 1) := by decide +kernel
theorem dJ5_append_c97b9_40 : decode cJ5_append_c97b9 40 = .ok (.aload_n 0, 1) := by decide +kernel
theorem dJ5_append_c97b9_41 : decode cJ5_append_c97b9 41 = .ok (.getfield 15, 3) := by decide +kernel
theorem dJ5_append_c97b9_44 : decode cJ5_append_c97b9 44 = .ok (.invokestatic 251, 3) := by decide +kernel
theorem dJ5_append_c97b9_47 : decode cJ5_append_c97b9 47 = .ok (.pop, 1) := by decide +kernel
theorem dJ5_append_c97b9_48 : decode cJ5_append_c97b9 48 = .ok (.aload_n 0, 1) := by decide +kernel
theorem dJ5_append_c97b9_49 : decode cJ5_append_c97b9 49 = .ok (.iload_n 3, 1) := by decide +kernel
theorem dJ5_append_c97b9_50 : decode cJ5_append_c97b9 50 = .ok (.putfield 79, 3) := by decide +kernel
theorem dJ5_append_c97b9_53 : decode cJ5_append_c97b9 53 = .ok (.aload_n 0, 1) := by decide +kernel
theorem dJ5_append_c97b9_54 : decode cJ5_append_c97b9 54 = .ok (.areturn, 1) := by decide +kernel
theorem dJ5_getValue_6d5f1_0 : decode cJ5_getValue_6d5f1 0 = .ok (.aload_n 0, 1) := by decide +kernel
theorem dJ5_getValue_6d5f1_1 : decode cJ5_getValue_6d5f1 1 = .ok (.getfield 15, 3) := by decide +kernel
theorem dJ5_getValue_6d5f1_4 : decode cJ5_getValue_6d5f1 4 = .ok (.areturn, 1) := by decide +kernel
theorem dJ5_isLatin1_aae02_0 : decode cJ5_isLatin1_aae02 0 = .ok (.getstatic 18, 3) := by decide +kernel
theorem dJ5_isLatin1_aae02_3 : decode cJ5_isLatin1_aae02 3 = .ok (.ifCond .eq 14, 3) := by decide +kernel
theorem dJ5_isLatin1_aae02_6 : decode cJ5_isLatin1_aae02 6 = .ok (.aload_n 0, 1) := by decide +kernel
theorem dJ5_isLatin1_aae02_7 : decode cJ5_isLatin1_aae02 7 = .ok (.getfield 22, 3) := by decide +kernel
theorem dJ5_isLatin1_aae02_10 : decode cJ5_isLatin1_aae02 10 = .ok (.ifCond .ne 7, 3) := by decide +kernel
theorem dJ5_isLatin1_aae02_13 : decode cJ5_isLatin1_aae02 13 = .ok (.iconst 1, 1) := by decide +kernel
theorem dJ5_isLatin1_aae02_14 : decode cJ5_isLatin1_aae02 14 = .ok (.goto 4, 3) := by decide +kernel
theorem dJ5_isLatin1_aae02_17 : decode cJ5_isLatin1_aae02 17 = .ok (.iconst 0, 1) := by decide +kernel
theorem dJ5_isLatin1_aae02_18 : decode cJ5_isLatin1_aae02 18 = .ok (.ireturn, 1) := by decide +kernel
theorem dJ5_inflateIfNeededFor_a7421_0 : decode cJ5_inflateIfNeededFor_a7421 0 = .ok (.getstatic 18, 3) := by decide +kernel
theorem dJ5_inflateIfNeededFor_a7421_3 : decode cJ5_inflateIfNeededFor_a7421 3 = .ok (.ifCond .eq 18, 3) := by decide +kernel
theorem dJ5_inflateIfNeededFor_a7421_6 : decode cJ5_inflateIfNeededFor_a7421 6 = .ok (.aload_n 0, 1) := by decide +kernel
theorem dJ5_inflateIfNeededFor_a7421_7 : decode cJ5_inflateIfNeededFor_a7421 7 = .ok (.getfield 22, 3) := by decide +kernel
theorem dJ5_inflateIfNeededFor_a7421_10 : decode cJ5_inflateIfNeededFor_a7421 10 = .ok (.aload_n 1, 1) := by decide +kernel
theorem dJ5_inflateIfNeededFor_a7421_11 : decode cJ5_inflateIfNeededFor_a7421 11 = .ok (.invokevirtual 40, 3) := by decide +kernel
theorem dJ5_inflateIfNeededFor_a7421_14 : decode cJ5_inflateIfNeededFor_a7421 14 = .ok (.if_icmp .eq 7, 3) := by decide +kernel
theorem dJ5_inflateIfNeededFor_a7421_17 : decode cJ5_inflateIfNeededFor_a7421 17 = .ok (.aload_n 0, 1) := by decide +kernel
theorem dJ5_inflateIfNeededFor_a7421_18 : decode cJ5_inflateIfNeededFor_a7421 18 = .ok (.invokevirtual 195, 3) := by decide +kernel
theorem dJ5_inflateIfNeededFor_a7421_21 : decode cJ5_inflateIfNeededFor_a7421 21 = .ok (.return_, 1) := by decide +kernel
theorem dJ5_putStringAt_47b60_0 : decode cJ5_putStringAt_47b60 0 = .ok (.aload_n 0, 1) := by decide +kernel
theorem dJ5_putStringAt_47b60_1 : decode cJ5_putStringAt_47b60 1 = .ok (.aload_n 2, 1) := by decide +kernel
theorem dJ5_putStringAt_47b60_2 : decode cJ5_putStringAt_47b60 2 = .ok (.invokevirtual 397, 3) := by decide +kernel
theorem dJ5_putStringAt_47b60_5 : decode cJ5_putStringAt_47b60 5 = .ok (.aload_n 2, 1) := by decide +kernel
theorem dJ5_putStringAt_47b60_6 : decode cJ5_putStringAt_47b60 6 = .ok (.aload_n 0, 1) := by decide +kernel
theorem dJ5_putStringAt_47b60_7 : decode cJ5_putStringAt_47b60 7 = .ok (.getfield 15, 3) := by decide +kernel
theorem dJ5_putStringAt_47b60_10 : decode cJ5_putStringAt_47b60 10 = .ok (.iload_n 1, 1) := by decide +kernel
theorem dJ5_putStringAt_47b60_11 : decode cJ5_putStringAt_47b60 11 = .ok (.aload_n 0, 1) := by decide +kernel
theorem dJ5_putStringAt_47b60_12 : decode cJ5_putStringAt_47b60 12 = .ok (.getfield 22, 3) := by decide +kernel
theorem dJ5_putStringAt_47b60_15 : decode cJ5_putStringAt_47b60 15 = .ok (.invokevirtual 399, 3) := by decide +kernel
theorem dJ5_putStringAt_47b60_18 : decode cJ5_putStringAt_47b60 18 = .ok (.return_, 1) := by decide +kernel
end
section
theorem dJ6_getChars_ba4f3_0 : decode cJ6_getChars_ba4f3 0 = .ok (.iload_n 1, 1) := by decide +kernel
theorem dJ6_getChars_ba4f3_1 : decode cJ6_getChars_ba4f3 1 = .ok (.istore 5, 2) := by decide +kernel
theorem dJ6_getChars_ba4f3_3 : decode cJ6_getChars_ba4f3 3 = .ok (.iload_n 0, 1) := by decide +kernel
theorem dJ6_getChars_ba4f3_4 : decode cJ6_getChars_ba4f3 4 = .ok (.ifCond .ge 7, 3) := by decide +kernel
theorem dJ6_getChars_ba4f3_7 : decode cJ6_getChars_ba4f3 7 = .ok (.iconst 1, 1) := by decide +kernel
theorem dJ6_getChars_ba4f3_8 : decode cJ6_getChars_ba4f3 8 = .ok (.goto 4, 3) := by decide +kernel
theorem dJ6_getChars_ba4f3_11 : decode cJ6_getChars_ba4f3 11 = .ok (.iconst 0, 1) := by decide +kernel
theorem dJ6_getChars_ba4f3_12 : decode cJ6_getChars_ba4f3 12 = .ok (.istore 6, 2) := by decide +kernel
theorem dJ6_getChars_ba4f3_14 : decode cJ6_getChars_ba4f3 14 = .ok (.iload 6, 2) := by decide +kernel
theorem dJ6_getChars_ba4f3_16 : decode cJ6_getChars_ba4f3 16 = .ok (.ifCond .ne 6, 3) := by decide +kernel
theorem dJ6_getChars_ba4f3_19 : decode cJ6_getChars_ba4f3 19 = .ok (.iload_n 0, 1) := by decide +kernel
theorem dJ6_getChars_ba4f3_20 : decode cJ6_getChars_ba4f3 20 = .ok (.ineg, 1) := by decide +kernel
theorem dJ6_getChars_ba4f3_21 : decode cJ6_getChars_ba4f3 21 = .ok (.istore_n 0, 1) := by decide +kernel
theorem dJ6_getChars_ba4f3_22 : decode cJ6_getChars_ba4f3 22 = .ok (.iload_n 0, 1) := by decide +kernel
theorem dJ6_getChars_ba4f3_23 : decode cJ6_getChars_ba4f3 23 = .ok (.bipush (-100), 2) := by decide +kernel
theorem dJ6_getChars_ba4f3_25 : decode cJ6_getChars_ba4f3 25 = .ok (.if_icmp .gt 47, 3) := by decide +kernel
theorem dJ6_getChars_ba4f3_28 : decode cJ6_getChars_ba4f3 28 = .ok (.iload_n 0, 1) := by decide +kernel
theorem dJ6_getChars_ba4f3_29 : decode cJ6_getChars_ba4f3 29 = .ok (.bipush 100, 2) := by decide +kernel
theorem dJ6_getChars_ba4f3_31 : decode cJ6_getChars_ba4f3 31 = .ok (.idiv, 1) := by decide +kernel
theorem dJ6_getChars_ba4f3_32 : decode cJ6_getChars_ba4f3 32 = .ok (.istore_n 3, 1) := by decide +kernel
theorem dJ6_getChars_ba4f3_33 : decode cJ6_getChars_ba4f3 33 = .ok (.iload_n 3, 1) := by decide +kernel
theorem dJ6_getChars_ba4f3_34 : decode cJ6_getChars_ba4f3 34 = .ok (.bipush 100, 2) := by decide +kernel
theorem dJ6_getChars_ba4f3_36 : decode cJ6_getChars_ba4f3 36 = .ok (.imul, 1) := by decide +kernel
theorem dJ6_getChars_ba4f3_37 : decode cJ6_getChars_ba4f3 37 = .ok (.iload_n 0, 1) := by decide +kernel
theorem dJ6_getChars_ba4f3_38 : decode cJ6_getChars_ba4f3 38 = .ok (.isub, 1) := by decide +kernel
theorem dJ6_getChars_ba4f3_39 : decode cJ6_getChars_ba4f3 39 = .ok (.istore 4, 2) := by decide +kernel
theorem dJ6_getChars_ba4f3_41 : decode cJ6_getChars_ba4f3 41 = .ok (.iload_n 3, 1) := by decide +kernel
theorem dJ6_getChars_ba4f3_42 : decode cJ6_getChars_ba4f3 42 = .ok (.istore_n 0, 1) := by decide +kernel
theorem dJ6_getChars_ba4f3_43 : decode cJ6_getChars_ba4f3 43 = .ok (.aload_n 2, 1) := by decide +kernel
theorem dJ6_getChars_ba4f3_44 : decode cJ6_getChars_ba4f3 44 = .ok (.iinc 5 (-1), 3) := by decide +kernel
theorem dJ6_getChars_ba4f3_47 : decode cJ6_getChars_ba4f3 47 = .ok (.iload 5, 2) := by decide +kernel
theorem dJ6_getChars_ba4f3_49 : decode cJ6_getChars_ba4f3 49 = .ok (.getstatic 83, 3) := by decide +kernel
theorem dJ6_getChars_ba4f3_52 : decode cJ6_getChars_ba4f3 52 = .ok (.iload 4, 2) := by decide +kernel
theorem dJ6_getChars_ba4f3_54 : decode cJ6_getChars_ba4f3 54 = .ok (.baload, 1) := by decide +kernel
theorem dJ6_getChars_ba4f3_55 : decode cJ6_getChars_ba4f3 55 = .ok (.bastore, 1) := by decide +kernel
theorem dJ6_getChars_ba4f3_56 : decode cJ6_getChars_ba4f3 56 = .ok (.aload_n 2, 1) := by decide +kernel
theorem dJ6_getChars_ba4f3_57 : decode cJ6_getChars_ba4f3 57 = .ok (.iinc 5 (-1), 3) := by decide +kernel
theorem dJ6_getChars_ba4f3_60 : decode cJ6_getChars_ba4f3 60 = .ok (.iload 5, 2) := by decide +kernel
theorem dJ6_getChars_ba4f3_62 : decode cJ6_getChars_ba4f3 62 = .ok (.getstatic 87, 3) := by decide +kernel
theorem dJ6_getChars_ba4f3_65 : decode cJ6_getChars_ba4f3 65 = .ok (.iload 4, 2) := by decide +kernel
theorem dJ6_getChars_ba4f3_67 : decode cJ6_getChars_ba4f3 67 = .ok (.baload, 1) := by decide +kernel
theorem dJ6_getChars_ba4f3_68 : decode cJ6_getChars_ba4f3 68 = .ok (.bastore, 1) := by decide +kernel
theorem dJ6_getChars_ba4f3_69 : decode cJ6_getChars_ba4f3 69 = .ok (.goto (-47), 3) := by decide +kernel
theorem dJ6_getChars_ba4f3_72 : decode cJ6_getChars_ba4f3 72 = .ok (.aload_n 2, 1) := by decide +kernel
theorem dJ6_getChars_ba4f3_73 : decode cJ6_getChars_ba4f3 73 = .ok (.iinc 5 (-1), 3) := by decide +kernel
theorem dJ6_getChars_ba4f3_76 : decode cJ6_getChars_ba4f3 76 = .ok (.iload 5, 2) := by decide +kernel
theorem dJ6_getChars_ba4f3_78 : decode cJ6_getChars_ba4f3 78 = .ok (.getstatic 83, 3) := by decide +kernel
theorem dJ6_getChars_ba4f3_81 : decode cJ6_getChars_ba4f3 81 = .ok (.iload_n 0, 1) := by decide +kernel
theorem dJ6_getChars_ba4f3_82 : decode cJ6_getChars_ba4f3 82 = .ok (.ineg, 1) := by decide +kernel
theorem dJ6_getChars_ba4f3_83 : decode cJ6_getChars_ba4f3 83 = .ok (.baload, 1) := by decide +kernel
theorem dJ6_getChars_ba4f3_84 : decode cJ6_getChars_ba4f3 84 = .ok (.bastore, 1) := by decide +kernel
theorem dJ6_getChars_ba4f3_85 : decode cJ6_getChars_ba4f3 85 = .ok (.iload_n 0, 1) := by decide +kernel
theorem dJ6_getChars_ba4f3_86 : decode cJ6_getChars_ba4f3 86 = .ok (.bipush (-9), 2) := by decide +kernel
theorem dJ6_getChars_ba4f3_88 : decode cJ6_getChars_ba4f3 88 = .ok (.if_icmp .ge 16, 3) := by decide +kernel
theorem dJ6_getChars_ba4f3_91 : decode cJ6_getChars_ba4f3 91 = .ok (.aload_n 2, 1) := by decide +kernel
theorem dJ6_getChars_ba4f3_92 : decode cJ6_getChars_ba4f3 92 = .ok (.iinc 5 (-1), 3) := by decide +kernel
theorem dJ6_getChars_ba4f3_95 : decode cJ6_getChars_ba4f3 95 = .ok (.iload 5, 2) := by decide +kernel
theorem dJ6_getChars_ba4f3_97 : decode cJ6_getChars_ba4f3 97 = .ok (.getstatic 87, 3) := by decide +kernel
theorem dJ6_getChars_ba4f3_100 : decode cJ6_getChars_ba4f3 100 = .ok (.iload_n 0, 1) := by decide +kernel
theorem dJ6_getChars_ba4f3_101 : decode cJ6_getChars_ba4f3 101 = .ok (.ineg, 1) := by decide +kernel
theorem dJ6_getChars_ba4f3_102 : decode cJ6_getChars_ba4f3 102 = .ok (.baload, 1) := by decide +kernel
theorem dJ6_getChars_ba4f3_103 : decode cJ6_getChars_ba4f3 103 = .ok (.bastore, 1) := by decide +kernel
theorem dJ6_getChars_ba4f3_104 : decode cJ6_getChars_ba4f3 104 = .ok (.iload 6, 2) := by decide +kernel
theorem dJ6_getChars_ba4f3_106 : decode cJ6_getChars_ba4f3 106 = .ok (.ifCond .eq 12, 3) := by decide +kernel
theorem dJ6_getChars_ba4f3_109 : decode cJ6_getChars_ba4f3 109 = .ok (.aload_n 2, 1) := by decide +kernel
theorem dJ6_getChars_ba4f3_110 : decode cJ6_getChars_ba4f3 110 = .ok (.iinc 5 (-1), 3) := by decide +kernel
theorem dJ6_getChars_ba4f3_113 : decode cJ6_getChars_ba4f3 113 = .ok (.iload 5, 2) := by decide +kernel
theorem dJ6_getChars_ba4f3_115 : decode cJ6_getChars_ba4f3 115 = .ok (.bipush 45, 2) := by decide +kernel
theorem dJ6_getChars_ba4f3_117 : decode cJ6_getChars_ba4f3 117 = .ok (.bastore, 1) := by decide +kernel
theorem dJ6_getChars_ba4f3_118 : decode cJ6_getChars_ba4f3 118 = .ok (.iload 5, 2) := by decide +kernel
theorem dJ6_getChars_ba4f3_120 : decode cJ6_getChars_ba4f3 120 = .ok (.ireturn, 1) := by decide +kernel
theorem dJ6_stringSize_0f7a4_0 : decode cJ6_stringSize_0f7a4 0 = .ok (.iconst 1, 1) := by decide +kernel
theorem dJ6_stringSize_0f7a4_1 : decode cJ6_stringSize_0f7a4 1 = .ok (.istore_n 1, 1) := by decide +kernel
theorem dJ6_stringSize_0f7a4_2 : decode cJ6_stringSize_0f7a4 2 = .ok (.iload_n 0, 1) := by decide +kernel
theorem dJ6_stringSize_0f7a4_3 : decode cJ6_stringSize_0f7a4 3 = .ok (.ifCond .lt 8, 3) := by decide +kernel
theorem dJ6_stringSize_0f7a4_6 : decode cJ6_stringSize_0f7a4 6 = .ok (.iconst 0, 1) := by decide +kernel
theorem dJ6_stringSize_0f7a4_7 : decode cJ6_stringSize_0f7a4 7 = .ok (.istore_n 1, 1) := by decide +kernel
theorem dJ6_stringSize_0f7a4_8 : decode cJ6_stringSize_0f7a4 8 = .ok (.iload_n 0, 1) := by decide +kernel
theorem dJ6_stringSize_0f7a4_9 : decode cJ6_stringSize_0f7a4 9 = .ok (.ineg, 1) := by decide +kernel
theorem dJ6_stringSize_0f7a4_10 : decode cJ6_stringSize_0f7a4 10 = .ok (.istore_n 0, 1) := by decide +kernel
theorem dJ6_stringSize_0f7a4_11 : decode cJ6_stringSize_0f7a4 11 = .ok (.bipush (-10), 2) := by decide +kernel
theorem dJ6_stringSize_0f7a4_13 : decode cJ6_stringSize_0f7a4 13 = .ok (.istore_n 2, 1) := by decide +kernel
theorem dJ6_stringSize_0f7a4_14 : decode cJ6_stringSize_0f7a4 14 = .ok (.iconst 1, 1) := by decide +kernel
theorem dJ6_stringSize_0f7a4_15 : decode cJ6_stringSize_0f7a4 15 = .ok (.istore_n 3, 1) := by decide +kernel
theorem dJ6_stringSize_0f7a4_16 : decode cJ6_stringSize_0f7a4 16 = .ok (.iload_n 3, 1) := by decide +kernel
theorem dJ6_stringSize_0f7a4_17 : decode cJ6_stringSize_0f7a4 17 = .ok (.bipush 10, 2) := by decide +kernel
theorem dJ6_stringSize_0f7a4_19 : decode cJ6_stringSize_0f7a4 19 = .ok (.if_icmp .ge 23, 3) := by decide +kernel
theorem dJ6_stringSize_0f7a4_22 : decode cJ6_stringSize_0f7a4 22 = .ok (.iload_n 0, 1) := by decide +kernel
theorem dJ6_stringSize_0f7a4_23 : decode cJ6_stringSize_0f7a4 23 = .ok (.iload_n 2, 1) := by decide +kernel
theorem dJ6_stringSize_0f7a4_24 : decode cJ6_stringSize_0f7a4 24 = .ok (.if_icmp .le 7, 3) := by decide +kernel
theorem dJ6_stringSize_0f7a4_27 : decode cJ6_stringSize_0f7a4 27 = .ok (.iload_n 3, 1) := by decide +kernel
theorem dJ6_stringSize_0f7a4_28 : decode cJ6_stringSize_0f7a4 28 = .ok (.iload_n 1, 1) := by decide +kernel
theorem dJ6_stringSize_0f7a4_29 : decode cJ6_stringSize_0f7a4 29 = .ok (.iadd, 1) := by decide +kernel
theorem dJ6_stringSize_0f7a4_30 : decode cJ6_stringSize_0f7a4 30 = .ok (.ireturn, 1) := by decide +kernel
theorem dJ6_stringSize_0f7a4_31 : decode cJ6_stringSize_0f7a4 31 = .ok (.bipush 10, 2) := by decide +kernel
theorem dJ6_stringSize_0f7a4_33 : decode cJ6_stringSize_0f7a4 33 = .ok (.iload_n 2, 1) := by decide +kernel
theorem dJ6_stringSize_0f7a4_34 : decode cJ6_stringSize_0f7a4 34 = .ok (.imul, 1) := by decide +kernel
theorem dJ6_stringSize_0f7a4_35 : decode cJ6_stringSize_0f7a4 35 = .ok (.istore_n 2, 1) := by decide +kernel
theorem dJ6_stringSize_0f7a4_36 : decode cJ6_stringSize_0f7a4 36 = .ok (.iinc 3 1, 3) := by decide +kernel
theorem dJ6_stringSize_0f7a4_39 : decode cJ6_stringSize_0f7a4 39 = .ok (.goto (-23), 3) := by decide +kernel
theorem dJ6_stringSize_0f7a4_42 : decode cJ6_stringSize_0f7a4 42 = .ok (.bipush 10, 2) := by decide +kernel
theorem dJ6_stringSize_0f7a4_44 : decode cJ6_stringSize_0f7a4 44 = .ok (.iload_n 1, 1) := by decide +kernel
theorem dJ6_stringSize_0f7a4_45 : decode cJ6_stringSize_0f7a4 45 = .ok (.iadd, 1) := by decide +kernel
theorem dJ6_stringSize_0f7a4_46 : decode cJ6_stringSize_0f7a4 46 = .ok (.ireturn, 1) := by decide +kernel
theorem dJ6_bitCount_0f7a4_0 : decode cJ6_bitCount_0f7a4 0 = .ok (.iload_n 0, 1) := by decide +kernel
theorem dJ6_bitCount_0f7a4_1 : decode cJ6_bitCount_0f7a4 1 = .ok (.iload_n 0, 1) := by decide +kernel
theorem dJ6_bitCount_0f7a4_2 : decode cJ6_bitCount_0f7a4 2 = .ok (.iconst 1, 1) := by decide +kernel
theorem dJ6_bitCount_0f7a4_3 : decode cJ6_bitCount_0f7a4 3 = .ok (.iushr, 1) := by decide +kernel
theorem dJ6_bitCount_0f7a4_4 : decode cJ6_bitCount_0f7a4 4 = .ok (.ldc_w 265, 3) := by decide +kernel
theorem dJ6_bitCount_0f7a4_7 : decode cJ6_bitCount_0f7a4 7 = .ok (.iand, 1) := by decide +kernel
theorem dJ6_bitCount_0f7a4_8 : decode cJ6_bitCount_0f7a4 8 = .ok (.isub, 1) := by decide +kernel
theorem dJ6_bitCount_0f7a4_9 : decode cJ6_bitCount_0f7a4 9 = .ok (.istore_n 0, 1) := by decide +kernel
theorem dJ6_bitCount_0f7a4_10 : decode cJ6_bitCount_0f7a4 10 = .ok (.iload_n 0, 1) := by decide +kernel
theorem dJ6_bitCount_0f7a4_11 : decode cJ6_bitCount_0f7a4 11 = .ok (.ldc_w 266, 3) := by decide +kernel
theorem dJ6_bitCount_0f7a4_14 : decode cJ6_bitCount_0f7a4 14 = .ok (.iand, 1) := by decide +kernel
theorem dJ6_bitCount_0f7a4_15 : decode cJ6_bitCount_0f7a4 15 = .ok (.iload_n 0, 1) := by decide +kernel
theorem dJ6_bitCount_0f7a4_16 : decode cJ6_bitCount_0f7a4 16 = .ok (.iconst 2, 1) := by decide +kernel
theorem dJ6_bitCount_0f7a4_17 : decode cJ6_bitCount_0f7a4 17 = .ok (.iushr, 1) := by decide +kernel
theorem dJ6_bitCount_0f7a4_18 : decode cJ6_bitCount_0f7a4 18 = .ok (.ldc_w 266, 3) := by decide +kernel
theorem dJ6_bitCount_0f7a4_21 : decode cJ6_bitCount_0f7a4 21 = .ok (.iand, 1) := by decide +kernel
theorem dJ6_bitCount_0f7a4_22 : decode cJ6_bitCount_0f7a4 22 = .ok (.iadd, 1) := by decide +kernel
theorem dJ6_bitCount_0f7a4_23 : decode cJ6_bitCount_0f7a4 23 = .ok (.istore_n 0, 1) := by decide +kernel
theorem dJ6_bitCount_0f7a4_24 : decode cJ6_bitCount_0f7a4 24 = .ok (.iload_n 0, 1) := by decide +kernel
theorem dJ6_bitCount_0f7a4_25 : decode cJ6_bitCount_0f7a4 25 = .ok (.iload_n 0, 1) := by decide +kernel
theorem dJ6_bitCount_0f7a4_26 : decode cJ6_bitCount_0f7a4 26 = .ok (.iconst 4, 1) := by decide +kernel
theorem dJ6_bitCount_0f7a4_27 : decode cJ6_bitCount_0f7a4 27 = .ok (.iushr, 1) := by decide +kernel
theorem dJ6_bitCount_0f7a4_28 : decode cJ6_bitCount_0f7a4 28 = .ok (.iadd, 1) := by decide +kernel
theorem dJ6_bitCount_0f7a4_29 : decode cJ6_bitCount_0f7a4 29 = .ok (.ldc_w 267, 3) := by decide +kernel
theorem dJ6_bitCount_0f7a4_32 : decode cJ6_bitCount_0f7a4 32 = .ok (.iand, 1) := by decide +kernel
theorem dJ6_bitCount_0f7a4_33 : decode cJ6_bitCount_0f7a4 33 = .ok (.istore_n 0, 1) := by decide +kernel
theorem dJ6_bitCount_0f7a4_34 : decode cJ6_bitCount_0f7a4 34 = .ok (.iload_n 0, 1) := by decide +kernel
theorem dJ6_bitCount_0f7a4_35 : decode cJ6_bitCount_0f7a4 35 = .ok (.iload_n 0, 1) := by decide +kernel
theorem dJ6_bitCount_0f7a4_36 : decode cJ6_bitCount_0f7a4 36 = .ok (.bipush 8, 2) := by decide +kernel
theorem dJ6_bitCount_0f7a4_38 : decode cJ6_bitCount_0f7a4 38 = .ok (.iushr, 1) := by decide +kernel
theorem dJ6_bitCount_0f7a4_39 : decode cJ6_bitCount_0f7a4 39 = .ok (.iadd, 1) := by decide +kernel
theorem dJ6_bitCount_0f7a4_40 : decode cJ6_bitCount_0f7a4 40 = .ok (.istore_n 0, 1) := by decide +kernel
theorem dJ6_bitCount_0f7a4_41 : decode cJ6_bitCount_0f7a4 41 = .ok (.iload_n 0, 1) := by decide +kernel
theorem dJ6_bitCount_0f7a4_42 : decode cJ6_bitCount_0f7a4 42 = .ok (.iload_n 0, 1) := by decide +kernel
theorem dJ6_bitCount_0f7a4_43 : decode cJ6_bitCount_0f7a4 43 = .ok (.bipush 16, 2) := by decide +kernel
theorem dJ6_bitCount_0f7a4_45 : decode cJ6_bitCount_0f7a4 45 = .ok (.iushr, 1) := by decide +kernel
theorem dJ6_bitCount_0f7a4_46 : decode cJ6_bitCount_0f7a4 46 = .ok (.iadd, 1) := by decide +kernel
theorem dJ6_bitCount_0f7a4_47 : decode cJ6_bitCount_0f7a4 47 = .ok (.istore_n 0, 1) := by decide +kernel
theorem dJ6_bitCount_0f7a4_48 : decode cJ6_bitCount_0f7a4 48 = .ok (.iload_n 0, 1) := by decide +kernel
theorem dJ6_bitCount_0f7a4_49 : decode cJ6_bitCount_0f7a4 49 = .ok (.bipush 63, 2) := by decide +kernel
theorem dJ6_bitCount_0f7a4_51 : decode cJ6_bitCount_0f7a4 51 = .ok (.iand, 1) := by decide +kernel
theorem dJ6_bitCount_0f7a4_52 : decode cJ6_bitCount_0f7a4 52 = .ok (.ireturn, 1) := by decide +kernel
end
section
theorem dJ7_fill_53178_0 : decode cJ7_fill_53178 0 = .ok (.iconst 0, 1) := by decide +kernel
theorem dJ7_fill_53178_1 : decode cJ7_fill_53178 1 = .ok (.istore_n 2, 1) := by decide +kernel
theorem dJ7_fill_53178_2 : decode cJ7_fill_53178 2 = .ok (.aload_n 0, 1) := by decide +kernel
theorem dJ7_fill_53178_3 : decode cJ7_fill_53178 3 = .ok (.arraylength, 1) := by decide +kernel
theorem dJ7_fill_53178_4 : decode cJ7_fill_53178 4 = .ok (.istore_n 3, 1) := by decide +kernel
theorem dJ7_fill_53178_5 : decode cJ7_fill_53178 5 = .ok (.iload_n 2, 1) := by decide +kernel
theorem dJ7_fill_53178_6 : decode cJ7_fill_53178 6 = .ok (.iload_n 3, 1) := by decide +kernel
theorem dJ7_fill_53178_7 : decode cJ7_fill_53178 7 = .ok (.if_icmp .ge 13, 3) := by decide +kernel
theorem dJ7_fill_53178_10 : decode cJ7_fill_53178 10 = .ok (.aload_n 0, 1) := by decide +kernel
theorem dJ7_fill_53178_11 : decode cJ7_fill_53178 11 = .ok (.iload_n 2, 1) := by decide +kernel
theorem dJ7_fill_53178_12 : decode cJ7_fill_53178 12 = .ok (.iload_n 1, 1) := by decide +kernel
theorem dJ7_fill_53178_13 : decode cJ7_fill_53178 13 = .ok (.iastore, 1) := by decide +kernel
theorem dJ7_fill_53178_14 : decode cJ7_fill_53178 14 = .ok (.iinc 2 1, 3) := by decide +kernel
theorem dJ7_fill_53178_17 : decode cJ7_fill_53178 17 = .ok (.goto (-12), 3) := by decide +kernel
theorem dJ7_fill_53178_20 : decode cJ7_fill_53178 20 = .ok (.return_, 1) := by decide +kernel
theorem dJ7_copyOf_9075b_0 : decode cJ7_copyOf_9075b 0 = .ok (.iload_n 1, 1) := by decide +kernel
theorem dJ7_copyOf_9075b_1 : decode cJ7_copyOf_9075b 1 = .ok (.aload_n 0, 1) := by decide +kernel
theorem dJ7_copyOf_9075b_2 : decode cJ7_copyOf_9075b 2 = .ok (.arraylength, 1) := by decide +kernel
theorem dJ7_copyOf_9075b_3 : decode cJ7_copyOf_9075b 3 = .ok (.if_icmp .ne 11, 3) := by decide +kernel
theorem dJ7_copyOf_9075b_6 : decode cJ7_copyOf_9075b 6 = .ok (.aload_n 0, 1) := by decide +kernel
theorem dJ7_copyOf_9075b_7 : decode cJ7_copyOf_9075b 7 = .ok (.invokevirtual 310, 3) := by decide +kernel
theorem dJ7_copyOf_9075b_10 : decode cJ7_copyOf_9075b 10 = .ok (.checkcast 311, 3) := by decide +kernel
theorem dJ7_copyOf_9075b_13 : decode cJ7_copyOf_9075b 13 = .ok (.areturn, 1) := by decide +kernel
theorem dJ7_copyOf_9075b_14 : decode cJ7_copyOf_9075b 14 = .ok (.iload_n 1, 1) := by decide +kernel
theorem dJ7_copyOf_9075b_15 : decode cJ7_copyOf_9075b 15 = .ok (.newarray .byte, 2) := by decide +kernel
theorem dJ7_copyOf_9075b_17 : decode cJ7_copyOf_9075b 17 = .ok (.astore_n 2, 1) := by decide +kernel
theorem dJ7_copyOf_9075b_18 : decode cJ7_copyOf_9075b 18 = .ok (.aload_n 0, 1) := by decide +kernel
theorem dJ7_copyOf_9075b_19 : decode cJ7_copyOf_9075b 19 = .ok (.iconst 0, 1) := by decide +kernel
theorem dJ7_copyOf_9075b_20 : decode cJ7_copyOf_9075b 20 = .ok (.aload_n 2, 1) := by decide +kernel
theorem dJ7_copyOf_9075b_21 : decode cJ7_copyOf_9075b 21 = .ok (.iconst 0, 1) := by decide +kernel
theorem dJ7_copyOf_9075b_22 : decode cJ7_copyOf_9075b 22 = .ok (.aload_n 0, 1) := by decide +kernel
theorem dJ7_copyOf_9075b_23 : decode cJ7_copyOf_9075b 23 = .ok (.arraylength, 1) := by decide +kernel
theorem dJ7_copyOf_9075b_24 : decode cJ7_copyOf_9075b 24 = .ok (.iload_n 1, 1) := by decide +kernel
theorem dJ7_copyOf_9075b_25 : decode cJ7_copyOf_9075b 25 = .ok (.invokestatic 304, 3) := by decide +kernel
theorem dJ7_copyOf_9075b_28 : decode cJ7_copyOf_9075b 28 = .ok (.invokestatic 150, 3) := by decide +kernel
theorem dJ7_copyOf_9075b_31 : decode cJ7_copyOf_9075b 31 = .ok (.aload_n 2, 1) := by decide +kernel
theorem dJ7_copyOf_9075b_32 : decode cJ7_copyOf_9075b 32 = .ok (.areturn, 1) := by decide +kernel
theorem dJ7_checkLength_df160_0 : decode cJ7_checkLength_df160 0 = .ok (.iload_n 1, 1) := by decide +kernel
theorem dJ7_checkLength_df160_1 : decode cJ7_checkLength_df160 1 = .ok (.iload_n 0, 1) := by decide +kernel
theorem dJ7_checkLength_df160_2 : decode cJ7_checkLength_df160 2 = .ok (.if_icmp .ge 35, 3) := by decide +kernel
theorem dJ7_checkLength_df160_5 : decode cJ7_checkLength_df160 5 = .ok (.new 43, 3) := by decide +kernel
theorem dJ7_checkLength_df160_8 : decode cJ7_checkLength_df160 8 = .ok (.dup, 1) := by decide +kernel
theorem dJ7_checkLength_df160_9 : decode cJ7_checkLength_df160 9 = .ok (.new 45, 3) := by decide +kernel
theorem dJ7_checkLength_df160_12 : decode cJ7_checkLength_df160 12 = .ok (.dup, 1) := by decide +kernel
theorem dJ7_checkLength_df160_13 : decode cJ7_checkLength_df160 13 = .ok (.invokespecial 47, 3) := by decide +kernel
theorem dJ7_checkLength_df160_16 : decode cJ7_checkLength_df160 16 = .ok (.iload_n 0, 1) := by decide +kernel
theorem dJ7_checkLength_df160_17 : decode cJ7_checkLength_df160 17 = .ok (.invokevirtual 54, 3) := by decide +kernel
theorem dJ7_checkLength_df160_20 : decode cJ7_checkLength_df160 20 = .ok (.ldc_w 337, 3) := by decide +kernel
theorem dJ7_checkLength_df160_23 : decode cJ7_checkLength_df160 23 = .ok (.invokevirtual 50, 3) := by decide +kernel
theorem dJ7_checkLength_df160_26 : decode cJ7_checkLength_df160 26 = .ok (.iload_n 1, 1) := by decide +kernel
theorem dJ7_checkLength_df160_27 : decode cJ7_checkLength_df160 27 = .ok (.invokevirtual 54, 3) := by decide +kernel
theorem dJ7_checkLength_df160_30 : decode cJ7_checkLength_df160 30 = .ok (.invokevirtual 61, 3) := by decide +kernel
theorem dJ7_checkLength_df160_33 : decode cJ7_checkLength_df160 33 = .ok (.invokespecial 65, 3) := by decide +kernel
theorem dJ7_checkLength_df160_36 : decode cJ7_checkLength_df160 36 = .ok (.athrow, 1) := by decide +kernel
theorem dJ7_checkLength_df160_37 : decode cJ7_checkLength_df160 37 = .ok (.return_, 1) := by decide +kernel
theorem dJ7_copyOfRange_39247_0 : decode cJ7_copyOfRange_39247 0 = .ok (.iload_n 1, 1) := by decide +kernel
theorem dJ7_copyOfRange_39247_1 : decode cJ7_copyOfRange_39247 1 = .ok (.ifCond .ne 9, 3) := by decide +kernel
theorem dJ7_copyOfRange_39247_4 : decode cJ7_copyOfRange_39247 4 = .ok (.iload_n 2, 1) := by decide +kernel
theorem dJ7_copyOfRange_39247_5 : decode cJ7_copyOfRange_39247 5 = .ok (.aload_n 0, 1) := by decide +kernel
theorem dJ7_copyOfRange_39247_6 : decode cJ7_copyOfRange_39247 6 = .ok (.arraylength, 1) := by decide +kernel
theorem dJ7_copyOfRange_39247_7 : decode cJ7_copyOfRange_39247 7 = .ok (.if_icmp .eq 10, 3) := by decide +kernel
theorem dJ7_copyOfRange_39247_10 : decode cJ7_copyOfRange_39247 10 = .ok (.aload_n 0, 1) := by decide +kernel
theorem dJ7_copyOfRange_39247_11 : decode cJ7_copyOfRange_39247 11 = .ok (.iload_n 1, 1) := by decide +kernel
theorem dJ7_copyOfRange_39247_12 : decode cJ7_copyOfRange_39247 12 = .ok (.iload_n 2, 1) := by decide +kernel
theorem dJ7_copyOfRange_39247_13 : decode cJ7_copyOfRange_39247 13 = .ok (.invokestatic 339, 3) := by decide +kernel
theorem dJ7_copyOfRange_39247_16 : decode cJ7_copyOfRange_39247 16 = .ok (.areturn, 1) := by decide +kernel
theorem dJ7_copyOfRange_39247_17 : decode cJ7_copyOfRange_39247 17 = .ok (.aload_n 0, 1) := by decide +kernel
theorem dJ7_copyOfRange_39247_18 : decode cJ7_copyOfRange_39247 18 = .ok (.invokevirtual 310, 3) := by decide +kernel
theorem dJ7_copyOfRange_39247_21 : decode cJ7_copyOfRange_39247 21 = .ok (.checkcast 311, 3) := by decide +kernel
theorem dJ7_copyOfRange_39247_24 : decode cJ7_copyOfRange_39247 24 = .ok (.areturn, 1) := by decide +kernel
theorem dJ7_copyOfRangeByte_39247_0 : decode cJ7_copyOfRangeByte_39247 0 = .ok (.iload_n 1, 1) := by decide +kernel
theorem dJ7_copyOfRangeByte_39247_1 : decode cJ7_copyOfRangeByte_39247 1 = .ok (.iload_n 2, 1) := by decide +kernel
theorem dJ7_copyOfRangeByte_39247_2 : decode cJ7_copyOfRangeByte_39247 2 = .ok (.invokestatic 343, 3) := by decide +kernel
theorem dJ7_copyOfRangeByte_39247_5 : decode cJ7_copyOfRangeByte_39247 5 = .ok (.iload_n 2, 1) := by decide +kernel
theorem dJ7_copyOfRangeByte_39247_6 : decode cJ7_copyOfRangeByte_39247 6 = .ok (.iload_n 1, 1) := by decide +kernel
theorem dJ7_copyOfRangeByte_39247_7 : decode cJ7_copyOfRangeByte_39247 7 = .ok (.isub, 1) := by decide +kernel
theorem dJ7_copyOfRangeByte_39247_8 : decode cJ7_copyOfRangeByte_39247 8 = .ok (.istore_n 3, 1) := by decide +kernel
theorem dJ7_copyOfRangeByte_39247_9 : decode cJ7_copyOfRangeByte_39247 9 = .ok (.iload_n 3, 1) := by decide +kernel
theorem dJ7_copyOfRangeByte_39247_10 : decode cJ7_copyOfRangeByte_39247 10 = .ok (.newarray .byte, 2) := by decide +kernel
theorem dJ7_copyOfRangeByte_39247_12 : decode cJ7_copyOfRangeByte_39247 12 = .ok (.astore 4, 2) := by decide +kernel
theorem dJ7_copyOfRangeByte_39247_14 : decode cJ7_copyOfRangeByte_39247 14 = .ok (.aload_n 0, 1) := by decide +kernel
theorem dJ7_copyOfRangeByte_39247_15 : decode cJ7_copyOfRangeByte_39247 15 = .ok (.iload_n 1, 1) := by decide +kernel
theorem dJ7_copyOfRangeByte_39247_16 : decode cJ7_copyOfRangeByte_39247 16 = .ok (.aload 4, 2) := by decide +kernel
theorem dJ7_copyOfRangeByte_39247_18 : decode cJ7_copyOfRangeByte_39247 18 = .ok (.iconst 0, 1) := by decide +kernel
theorem dJ7_copyOfRangeByte_39247_19 : decode cJ7_copyOfRangeByte_39247 19 = .ok (.aload_n 0, 1) := by decide +kernel
theorem dJ7_copyOfRangeByte_39247_20 : decode cJ7_copyOfRangeByte_39247 20 = .ok (.arraylength, 1) := by decide +kernel
theorem dJ7_copyOfRangeByte_39247_21 : decode cJ7_copyOfRangeByte_39247 21 = .ok (.iload_n 1, 1) := by decide +kernel
theorem dJ7_copyOfRangeByte_39247_22 : decode cJ7_copyOfRangeByte_39247 22 = .ok (.isub, 1) := by decide +kernel
theorem dJ7_copyOfRangeByte_39247_23 : decode cJ7_copyOfRangeByte_39247 23 = .ok (.iload_n 3, 1) := by decide +kernel
theorem dJ7_copyOfRangeByte_39247_24 : decode cJ7_copyOfRangeByte_39247 24 = .ok (.invokestatic 304, 3) := by decide +kernel
theorem dJ7_copyOfRangeByte_39247_27 : decode cJ7_copyOfRangeByte_39247 27 = .ok (.invokestatic 150, 3) := by decide +kernel
theorem dJ7_copyOfRangeByte_39247_30 : decode cJ7_copyOfRangeByte_39247 30 = .ok (.aload 4, 2) := by decide +kernel
theorem dJ7_copyOfRangeByte_39247_32 : decode cJ7_copyOfRangeByte_39247 32 = .ok (.areturn, 1) := by decide +kernel
end
section
theorem dJ8_newLength_cabcc_0 : decode cJ8_newLength_cabcc 0 = .ok (.iload_n 0, 1) := by decide +kernel
theorem dJ8_newLength_cabcc_1 : decode cJ8_newLength_cabcc 1 = .ok (.iload_n 1, 1) := by decide +kernel
theorem dJ8_newLength_cabcc_2 : decode cJ8_newLength_cabcc 2 = .ok (.iload_n 2, 1) := by decide +kernel
theorem dJ8_newLength_cabcc_3 : decode cJ8_newLength_cabcc 3 = .ok (.invokestatic 194, 3) := by decide +kernel
theorem dJ8_newLength_cabcc_6 : decode cJ8_newLength_cabcc 6 = .ok (.iadd, 1) := by decide +kernel
theorem dJ8_newLength_cabcc_7 : decode cJ8_newLength_cabcc 7 = .ok (.istore_n 3, 1) := by decide +kernel
theorem dJ8_newLength_cabcc_8 : decode cJ8_newLength_cabcc 8 = .ok (.iconst 0, 1) := by decide +kernel
theorem dJ8_newLength_cabcc_9 : decode cJ8_newLength_cabcc 9 = .ok (.iload_n 3, 1) := by decide +kernel
theorem dJ8_newLength_cabcc_10 : decode cJ8_newLength_cabcc 10 = .ok (.if_icmp .ge 11, 3) := by decide +kernel
theorem dJ8_newLength_cabcc_13 : decode cJ8_newLength_cabcc 13 = .ok (.iload_n 3, 1) := by decide +kernel
theorem dJ8_newLength_cabcc_14 : decode cJ8_newLength_cabcc 14 = .ok (.ldc 200, 2) := by decide +kernel
theorem dJ8_newLength_cabcc_16 : decode cJ8_newLength_cabcc 16 = .ok (.if_icmp .gt 5, 3) := by decide +kernel
theorem dJ8_newLength_cabcc_19 : decode cJ8_newLength_cabcc 19 = .ok (.iload_n 3, 1) := by decide +kernel
theorem dJ8_newLength_cabcc_20 : decode cJ8_newLength_cabcc 20 = .ok (.ireturn, 1) := by decide +kernel
theorem dJ8_newLength_cabcc_21 : decode cJ8_newLength_cabcc 21 = .ok (.iload_n 0, 1) := by decide +kernel
theorem dJ8_newLength_cabcc_22 : decode cJ8_newLength_cabcc 22 = .ok (.iload_n 1, 1) := by decide +kernel
theorem dJ8_newLength_cabcc_23 : decode cJ8_newLength_cabcc 23 = .ok (.invokestatic 201, 3) := by decide +kernel
theorem dJ8_newLength_cabcc_26 : decode cJ8_newLength_cabcc 26 = .ok (.ireturn, 1) := by decide +kernel
end
section
theorem dL_cell_0 : decode cL_cell 0 = .ok (.iload_n 1, 1) := by decide +kernel
theorem dL_cell_1 : decode cL_cell 1 = .ok (.aload_n 0, 1) := by decide +kernel
theorem dL_cell_2 : decode cL_cell 2 = .ok (.arraylength, 1) := by decide +kernel
theorem dL_cell_3 : decode cL_cell 3 = .ok (.if_icmp .ge 9, 3) := by decide +kernel
theorem dL_cell_6 : decode cL_cell 6 = .ok (.aload_n 0, 1) := by decide +kernel
theorem dL_cell_7 : decode cL_cell 7 = .ok (.iload_n 1, 1) := by decide +kernel
theorem dL_cell_8 : decode cL_cell 8 = .ok (.iaload, 1) := by decide +kernel
theorem dL_cell_9 : decode cL_cell 9 = .ok (.goto 11, 3) := by decide +kernel
theorem dL_cell_12 : decode cL_cell 12 = .ok (.ldc 7, 2) := by decide +kernel
theorem dL_cell_14 : decode cL_cell 14 = .ok (.iload_n 1, 1) := by decide +kernel
theorem dL_cell_15 : decode cL_cell 15 = .ok (.imul, 1) := by decide +kernel
theorem dL_cell_16 : decode cL_cell 16 = .ok (.sipush 731, 3) := by decide +kernel
theorem dL_cell_19 : decode cL_cell 19 = .ok (.iadd, 1) := by decide +kernel
theorem dL_cell_20 : decode cL_cell 20 = .ok (.ireturn, 1) := by decide +kernel
theorem dL_between_0 : decode cL_between 0 = .ok (.iload_n 1, 1) := by decide +kernel
theorem dL_between_1 : decode cL_between 1 = .ok (.iload_n 0, 1) := by decide +kernel
theorem dL_between_2 : decode cL_between 2 = .ok (.ldc 8, 2) := by decide +kernel
theorem dL_between_4 : decode cL_between 4 = .ok (.iand, 1) := by decide +kernel
theorem dL_between_5 : decode cL_between 5 = .ok (.iload_n 2, 1) := by decide +kernel
theorem dL_between_6 : decode cL_between 6 = .ok (.iload_n 1, 1) := by decide +kernel
theorem dL_between_7 : decode cL_between 7 = .ok (.isub, 1) := by decide +kernel
theorem dL_between_8 : decode cL_between 8 = .ok (.iconst 1, 1) := by decide +kernel
theorem dL_between_9 : decode cL_between 9 = .ok (.iadd, 1) := by decide +kernel
theorem dL_between_10 : decode cL_between 10 = .ok (.irem, 1) := by decide +kernel
theorem dL_between_11 : decode cL_between 11 = .ok (.iadd, 1) := by decide +kernel
theorem dL_between_12 : decode cL_between 12 = .ok (.ireturn, 1) := by decide +kernel
theorem dL_poly_0 : decode cL_poly 0 = .ok (.iconst 0, 1) := by decide +kernel
theorem dL_poly_1 : decode cL_poly 1 = .ok (.istore_n 3, 1) := by decide +kernel
theorem dL_poly_2 : decode cL_poly 2 = .ok (.iload_n 3, 1) := by decide +kernel
theorem dL_poly_3 : decode cL_poly 3 = .ok (.aload_n 2, 1) := by decide +kernel
theorem dL_poly_4 : decode cL_poly 4 = .ok (.invokevirtual 9, 3) := by decide +kernel
theorem dL_poly_7 : decode cL_poly 7 = .ok (.if_icmp .ge 100, 3) := by decide +kernel
theorem dL_poly_10 : decode cL_poly 10 = .ok (.iconst 5, 1) := by decide +kernel
theorem dL_poly_11 : decode cL_poly 11 = .ok (.newarray .int, 2) := by decide +kernel
theorem dL_poly_13 : decode cL_poly 13 = .ok (.astore 4, 2) := by decide +kernel
theorem dL_poly_15 : decode cL_poly 15 = .ok (.iconst 0, 1) := by decide +kernel
theorem dL_poly_16 : decode cL_poly 16 = .ok (.istore 5, 2) := by decide +kernel
theorem dL_poly_18 : decode cL_poly 18 = .ok (.iload 5, 2) := by decide +kernel
theorem dL_poly_20 : decode cL_poly 20 = .ok (.bipush 20, 2) := by decide +kernel
theorem dL_poly_22 : decode cL_poly 22 = .ok (.if_icmp .ge 54, 3) := by decide +kernel
theorem dL_poly_25 : decode cL_poly 25 = .ok (.aload 4, 2) := by decide +kernel
theorem dL_poly_27 : decode cL_poly 27 = .ok (.iload 5, 2) := by decide +kernel
theorem dL_poly_29 : decode cL_poly 29 = .ok (.iconst 4, 1) := by decide +kernel
theorem dL_poly_30 : decode cL_poly 30 = .ok (.idiv, 1) := by decide +kernel
theorem dL_poly_31 : decode cL_poly 31 = .ok (.dup2, 1) := by decide +kernel
theorem dL_poly_32 : decode cL_poly 32 = .ok (.iaload, 1) := by decide +kernel
theorem dL_poly_33 : decode cL_poly 33 = .ok (.iload_n 3, 1) := by decide +kernel
theorem dL_poly_34 : decode cL_poly 34 = .ok (.iload 5, 2) := by decide +kernel
theorem dL_poly_36 : decode cL_poly 36 = .ok (.iadd, 1) := by decide +kernel
theorem dL_poly_37 : decode cL_poly 37 = .ok (.aload_n 2, 1) := by decide +kernel
theorem dL_poly_38 : decode cL_poly 38 = .ok (.invokevirtual 9, 3) := by decide +kernel
theorem dL_poly_41 : decode cL_poly 41 = .ok (.if_icmp .ge 14, 3) := by decide +kernel
theorem dL_poly_44 : decode cL_poly 44 = .ok (.aload_n 2, 1) := by decide +kernel
theorem dL_poly_45 : decode cL_poly 45 = .ok (.iload_n 3, 1) := by decide +kernel
theorem dL_poly_46 : decode cL_poly 46 = .ok (.iload 5, 2) := by decide +kernel
theorem dL_poly_48 : decode cL_poly 48 = .ok (.iadd, 1) := by decide +kernel
theorem dL_poly_49 : decode cL_poly 49 = .ok (.invokevirtual 15, 3) := by decide +kernel
theorem dL_poly_52 : decode cL_poly 52 = .ok (.goto 5, 3) := by decide +kernel
theorem dL_poly_55 : decode cL_poly 55 = .ok (.bipush 32, 2) := by decide +kernel
theorem dL_poly_57 : decode cL_poly 57 = .ok (.bipush 24, 2) := by decide +kernel
theorem dL_poly_59 : decode cL_poly 59 = .ok (.bipush 8, 2) := by decide +kernel
theorem dL_poly_61 : decode cL_poly 61 = .ok (.iload 5, 2) := by decide +kernel
theorem dL_poly_63 : decode cL_poly 63 = .ok (.iconst 4, 1) := by decide +kernel
theorem dL_poly_64 : decode cL_poly 64 = .ok (.irem, 1) := by decide +kernel
theorem dL_poly_65 : decode cL_poly 65 = .ok (.imul, 1) := by decide +kernel
theorem dL_poly_66 : decode cL_poly 66 = .ok (.isub, 1) := by decide +kernel
theorem dL_poly_67 : decode cL_poly 67 = .ok (.ishl, 1) := by decide +kernel
theorem dL_poly_68 : decode cL_poly 68 = .ok (.ior, 1) := by decide +kernel
theorem dL_poly_69 : decode cL_poly 69 = .ok (.iastore, 1) := by decide +kernel
theorem dL_poly_70 : decode cL_poly 70 = .ok (.iinc 5 1, 3) := by decide +kernel
theorem dL_poly_73 : decode cL_poly 73 = .ok (.goto (-55), 3) := by decide +kernel
theorem dL_poly_76 : decode cL_poly 76 = .ok (.aload_n 0, 1) := by decide +kernel
theorem dL_poly_77 : decode cL_poly 77 = .ok (.aload 4, 2) := by decide +kernel
theorem dL_poly_79 : decode cL_poly 79 = .ok (.iconst 0, 1) := by decide +kernel
theorem dL_poly_80 : decode cL_poly 80 = .ok (.iaload, 1) := by decide +kernel
theorem dL_poly_81 : decode cL_poly 81 = .ok (.aload 4, 2) := by decide +kernel
theorem dL_poly_83 : decode cL_poly 83 = .ok (.iconst 1, 1) := by decide +kernel
theorem dL_poly_84 : decode cL_poly 84 = .ok (.iaload, 1) := by decide +kernel
theorem dL_poly_85 : decode cL_poly 85 = .ok (.aload 4, 2) := by decide +kernel
theorem dL_poly_87 : decode cL_poly 87 = .ok (.iconst 2, 1) := by decide +kernel
theorem dL_poly_88 : decode cL_poly 88 = .ok (.iaload, 1) := by decide +kernel
theorem dL_poly_89 : decode cL_poly 89 = .ok (.aload 4, 2) := by decide +kernel
theorem dL_poly_91 : decode cL_poly 91 = .ok (.iconst 3, 1) := by decide +kernel
theorem dL_poly_92 : decode cL_poly 92 = .ok (.iaload, 1) := by decide +kernel
theorem dL_poly_93 : decode cL_poly 93 = .ok (.aload 4, 2) := by decide +kernel
theorem dL_poly_95 : decode cL_poly 95 = .ok (.iconst 4, 1) := by decide +kernel
theorem dL_poly_96 : decode cL_poly 96 = .ok (.iaload, 1) := by decide +kernel
theorem dL_poly_97 : decode cL_poly 97 = .ok (.invokevirtual 19, 3) := by decide +kernel
theorem dL_poly_100 : decode cL_poly 100 = .ok (.pop, 1) := by decide +kernel
theorem dL_poly_101 : decode cL_poly 101 = .ok (.iinc 3 20, 3) := by decide +kernel
theorem dL_poly_104 : decode cL_poly 104 = .ok (.goto (-102), 3) := by decide +kernel
theorem dL_poly_107 : decode cL_poly 107 = .ok (.aload_n 0, 1) := by decide +kernel
theorem dL_poly_108 : decode cL_poly 108 = .ok (.aload_n 2, 1) := by decide +kernel
theorem dL_poly_109 : decode cL_poly 109 = .ok (.invokevirtual 9, 3) := by decide +kernel
theorem dL_poly_112 : decode cL_poly 112 = .ok (.invokevirtual 25, 3) := by decide +kernel
theorem dL_poly_115 : decode cL_poly 115 = .ok (.pop, 1) := by decide +kernel
theorem dL_poly_116 : decode cL_poly 116 = .ok (.aload_n 0, 1) := by decide +kernel
theorem dL_poly_117 : decode cL_poly 117 = .ok (.iload_n 1, 1) := by decide +kernel
theorem dL_poly_118 : decode cL_poly 118 = .ok (.invokevirtual 29, 3) := by decide +kernel
theorem dL_poly_121 : decode cL_poly 121 = .ok (.ireturn, 1) := by decide +kernel
theorem dL_said_0 : decode cL_said 0 = .ok (.aload_n 0, 1) := by decide +kernel
theorem dL_said_1 : decode cL_said 1 = .ok (.iload_n 1, 1) := by decide +kernel
theorem dL_said_2 : decode cL_said 2 = .ok (.invokevirtual 33, 3) := by decide +kernel
theorem dL_said_5 : decode cL_said 5 = .ok (.istore_n 2, 1) := by decide +kernel
theorem dL_said_6 : decode cL_said 6 = .ok (.new 36, 3) := by decide +kernel
theorem dL_said_9 : decode cL_said 9 = .ok (.dup, 1) := by decide +kernel
theorem dL_said_10 : decode cL_said 10 = .ok (.invokespecial 38, 3) := by decide +kernel
theorem dL_said_13 : decode cL_said 13 = .ok (.astore_n 3, 1) := by decide +kernel
theorem dL_said_14 : decode cL_said 14 = .ok (.iconst 0, 1) := by decide +kernel
theorem dL_said_15 : decode cL_said 15 = .ok (.istore 4, 2) := by decide +kernel
theorem dL_said_17 : decode cL_said 17 = .ok (.iload 4, 2) := by decide +kernel
theorem dL_said_19 : decode cL_said 19 = .ok (.iload_n 2, 1) := by decide +kernel
theorem dL_said_20 : decode cL_said 20 = .ok (.if_icmp .ge 21, 3) := by decide +kernel
theorem dL_said_23 : decode cL_said 23 = .ok (.aload_n 3, 1) := by decide +kernel
theorem dL_said_24 : decode cL_said 24 = .ok (.aload_n 0, 1) := by decide +kernel
theorem dL_said_25 : decode cL_said 25 = .ok (.iload 4, 2) := by decide +kernel
theorem dL_said_27 : decode cL_said 27 = .ok (.invokevirtual 39, 3) := by decide +kernel
theorem dL_said_30 : decode cL_said 30 = .ok (.i2c, 1) := by decide +kernel
theorem dL_said_31 : decode cL_said 31 = .ok (.invokevirtual 42, 3) := by decide +kernel
theorem dL_said_34 : decode cL_said 34 = .ok (.pop, 1) := by decide +kernel
theorem dL_said_35 : decode cL_said 35 = .ok (.iinc 4 1, 3) := by decide +kernel
theorem dL_said_38 : decode cL_said 38 = .ok (.goto (-21), 3) := by decide +kernel
theorem dL_said_41 : decode cL_said 41 = .ok (.aload_n 3, 1) := by decide +kernel
theorem dL_said_42 : decode cL_said 42 = .ok (.invokevirtual 46, 3) := by decide +kernel
theorem dL_said_45 : decode cL_said 45 = .ok (.areturn, 1) := by decide +kernel
theorem dL_drawn_0 : decode cL_drawn 0 = .ok (.new 36, 3) := by decide +kernel
theorem dL_drawn_3 : decode cL_drawn 3 = .ok (.dup, 1) := by decide +kernel
theorem dL_drawn_4 : decode cL_drawn 4 = .ok (.invokespecial 38, 3) := by decide +kernel
theorem dL_drawn_7 : decode cL_drawn 7 = .ok (.astore 5, 2) := by decide +kernel
theorem dL_drawn_9 : decode cL_drawn 9 = .ok (.iconst 0, 1) := by decide +kernel
theorem dL_drawn_10 : decode cL_drawn 10 = .ok (.istore 6, 2) := by decide +kernel
theorem dL_drawn_12 : decode cL_drawn 12 = .ok (.iload 6, 2) := by decide +kernel
theorem dL_drawn_14 : decode cL_drawn 14 = .ok (.iload_n 3, 1) := by decide +kernel
theorem dL_drawn_15 : decode cL_drawn 15 = .ok (.if_icmp .ge 220, 3) := by decide +kernel
theorem dL_drawn_18 : decode cL_drawn 18 = .ok (.iload_n 0, 1) := by decide +kernel
theorem dL_drawn_19 : decode cL_drawn 19 = .ok (.iconst 2, 1) := by decide +kernel
theorem dL_drawn_20 : decode cL_drawn 20 = .ok (.iload 6, 2) := by decide +kernel
theorem dL_drawn_22 : decode cL_drawn 22 = .ok (.imul, 1) := by decide +kernel
theorem dL_drawn_23 : decode cL_drawn 23 = .ok (.iconst 1, 1) := by decide +kernel
theorem dL_drawn_24 : decode cL_drawn 24 = .ok (.iadd, 1) := by decide +kernel
theorem dL_drawn_25 : decode cL_drawn 25 = .ok (.imul, 1) := by decide +kernel
theorem dL_drawn_26 : decode cL_drawn 26 = .ok (.iload_n 1, 1) := by decide +kernel
theorem dL_drawn_27 : decode cL_drawn 27 = .ok (.iload 6, 2) := by decide +kernel
theorem dL_drawn_29 : decode cL_drawn 29 = .ok (.iconst 3, 1) := by decide +kernel
theorem dL_drawn_30 : decode cL_drawn 30 = .ok (.iadd, 1) := by decide +kernel
theorem dL_drawn_31 : decode cL_drawn 31 = .ok (.imul, 1) := by decide +kernel
theorem dL_drawn_32 : decode cL_drawn 32 = .ok (.iadd, 1) := by decide +kernel
theorem dL_drawn_33 : decode cL_drawn 33 = .ok (.bipush 77, 2) := by decide +kernel
theorem dL_drawn_35 : decode cL_drawn 35 = .ok (.iload 6, 2) := by decide +kernel
theorem dL_drawn_37 : decode cL_drawn 37 = .ok (.imul, 1) := by decide +kernel
theorem dL_drawn_38 : decode cL_drawn 38 = .ok (.iadd, 1) := by decide +kernel
theorem dL_drawn_39 : decode cL_drawn 39 = .ok (.istore 7, 2) := by decide +kernel
theorem dL_drawn_41 : decode cL_drawn 41 = .ok (.iload 4, 2) := by decide +kernel
theorem dL_drawn_43 : decode cL_drawn 43 = .ok (.iload 7, 2) := by decide +kernel
theorem dL_drawn_45 : decode cL_drawn 45 = .ok (.iconst 2, 1) := by decide +kernel
theorem dL_drawn_46 : decode cL_drawn 46 = .ok (.ishr, 1) := by decide +kernel
theorem dL_drawn_47 : decode cL_drawn 47 = .ok (.iconst 0, 1) := by decide +kernel
theorem dL_drawn_48 : decode cL_drawn 48 = .ok (.iconst 2, 1) := by decide +kernel
theorem dL_drawn_49 : decode cL_drawn 49 = .ok (.invokestatic 50, 3) := by decide +kernel
theorem dL_drawn_52 : decode cL_drawn 52 = .ok (.iadd, 1) := by decide +kernel
theorem dL_drawn_53 : decode cL_drawn 53 = .ok (.istore 8, 2) := by decide +kernel
theorem dL_drawn_55 : decode cL_drawn 55 = .ok (.iload_n 2, 1) := by decide +kernel
theorem dL_drawn_56 : decode cL_drawn 56 = .ok (.iconst 1, 1) := by decide +kernel
theorem dL_drawn_57 : decode cL_drawn 57 = .ok (.if_icmp .ne 8, 3) := by decide +kernel
theorem dL_drawn_60 : decode cL_drawn 60 = .ok (.iload 8, 2) := by decide +kernel
theorem dL_drawn_62 : decode cL_drawn 62 = .ok (.goto 13, 3) := by decide +kernel
theorem dL_drawn_65 : decode cL_drawn 65 = .ok (.iload 7, 2) := by decide +kernel
theorem dL_drawn_67 : decode cL_drawn 67 = .ok (.iconst 4, 1) := by decide +kernel
theorem dL_drawn_68 : decode cL_drawn 68 = .ok (.ishr, 1) := by decide +kernel
theorem dL_drawn_69 : decode cL_drawn 69 = .ok (.iconst 0, 1) := by decide +kernel
theorem dL_drawn_70 : decode cL_drawn 70 = .ok (.iload 8, 2) := by decide +kernel
theorem dL_drawn_72 : decode cL_drawn 72 = .ok (.invokestatic 50, 3) := by decide +kernel
theorem dL_drawn_75 : decode cL_drawn 75 = .ok (.istore 9, 2) := by decide +kernel
theorem dL_drawn_77 : decode cL_drawn 77 = .ok (.iload_n 2, 1) := by decide +kernel
theorem dL_drawn_78 : decode cL_drawn 78 = .ok (.iconst 1, 1) := by decide +kernel
theorem dL_drawn_79 : decode cL_drawn 79 = .ok (.if_icmp .ne 7, 3) := by decide +kernel
theorem dL_drawn_82 : decode cL_drawn 82 = .ok (.iconst 0, 1) := by decide +kernel
theorem dL_drawn_83 : decode cL_drawn 83 = .ok (.goto 30, 3) := by decide +kernel
theorem dL_drawn_86 : decode cL_drawn 86 = .ok (.iload_n 2, 1) := by decide +kernel
theorem dL_drawn_87 : decode cL_drawn 87 = .ok (.iconst 2, 1) := by decide +kernel
theorem dL_drawn_88 : decode cL_drawn 88 = .ok (.if_icmp .ne 11, 3) := by decide +kernel
theorem dL_drawn_91 : decode cL_drawn 91 = .ok (.iload 8, 2) := by decide +kernel
theorem dL_drawn_93 : decode cL_drawn 93 = .ok (.iload 9, 2) := by decide +kernel
theorem dL_drawn_95 : decode cL_drawn 95 = .ok (.isub, 1) := by decide +kernel
theorem dL_drawn_96 : decode cL_drawn 96 = .ok (.goto 17, 3) := by decide +kernel
theorem dL_drawn_99 : decode cL_drawn 99 = .ok (.iload 7, 2) := by decide +kernel
theorem dL_drawn_101 : decode cL_drawn 101 = .ok (.bipush 9, 2) := by decide +kernel
theorem dL_drawn_103 : decode cL_drawn 103 = .ok (.ishr, 1) := by decide +kernel
theorem dL_drawn_104 : decode cL_drawn 104 = .ok (.iconst 0, 1) := by decide +kernel
theorem dL_drawn_105 : decode cL_drawn 105 = .ok (.iload 8, 2) := by decide +kernel
theorem dL_drawn_107 : decode cL_drawn 107 = .ok (.iload 9, 2) := by decide +kernel
theorem dL_drawn_109 : decode cL_drawn 109 = .ok (.isub, 1) := by decide +kernel
theorem dL_drawn_110 : decode cL_drawn 110 = .ok (.invokestatic 50, 3) := by decide +kernel
theorem dL_drawn_113 : decode cL_drawn 113 = .ok (.istore 10, 2) := by decide +kernel
theorem dL_drawn_115 : decode cL_drawn 115 = .ok (.aload 5, 2) := by decide +kernel
theorem dL_drawn_117 : decode cL_drawn 117 = .ok (.iload 6, 2) := by decide +kernel
theorem dL_drawn_119 : decode cL_drawn 119 = .ok (.ifCond .ne 8, 3) := by decide +kernel
theorem dL_drawn_122 : decode cL_drawn 122 = .ok (.ldc 56, 2) := by decide +kernel
theorem dL_drawn_124 : decode cL_drawn 124 = .ok (.goto 17, 3) := by decide +kernel
theorem dL_drawn_127 : decode cL_drawn 127 = .ok (.iload 7, 2) := by decide +kernel
theorem dL_drawn_129 : decode cL_drawn 129 = .ok (.iconst 1, 1) := by decide +kernel
theorem dL_drawn_130 : decode cL_drawn 130 = .ok (.iand, 1) := by decide +kernel
theorem dL_drawn_131 : decode cL_drawn 131 = .ok (.ifCond .ne 8, 3) := by decide +kernel
theorem dL_drawn_134 : decode cL_drawn 134 = .ok (.ldc 58, 2) := by decide +kernel
theorem dL_drawn_136 : decode cL_drawn 136 = .ok (.goto 5, 3) := by decide +kernel
theorem dL_drawn_139 : decode cL_drawn 139 = .ok (.ldc 60, 2) := by decide +kernel
theorem dL_drawn_141 : decode cL_drawn 141 = .ok (.invokevirtual 62, 3) := by decide +kernel
theorem dL_drawn_144 : decode cL_drawn 144 = .ok (.iload 7, 2) := by decide +kernel
theorem dL_drawn_146 : decode cL_drawn 146 = .ok (.bipush 12, 2) := by decide +kernel
theorem dL_drawn_148 : decode cL_drawn 148 = .ok (.ishr, 1) := by decide +kernel
theorem dL_drawn_149 : decode cL_drawn 149 = .ok (.iconst 1, 1) := by decide +kernel
theorem dL_drawn_150 : decode cL_drawn 150 = .ok (.bipush 9, 2) := by decide +kernel
theorem dL_drawn_152 : decode cL_drawn 152 = .ok (.invokestatic 50, 3) := by decide +kernel
theorem dL_drawn_155 : decode cL_drawn 155 = .ok (.invokevirtual 65, 3) := by decide +kernel
theorem dL_drawn_158 : decode cL_drawn 158 = .ok (.pop, 1) := by decide +kernel
theorem dL_drawn_159 : decode cL_drawn 159 = .ok (.iload 9, 2) := by decide +kernel
theorem dL_drawn_161 : decode cL_drawn 161 = .ok (.ifCond .le 16, 3) := by decide +kernel
theorem dL_drawn_164 : decode cL_drawn 164 = .ok (.aload 5, 2) := by decide +kernel
theorem dL_drawn_166 : decode cL_drawn 166 = .ok (.ldc 68, 2) := by decide +kernel
theorem dL_drawn_168 : decode cL_drawn 168 = .ok (.invokevirtual 62, 3) := by decide +kernel
theorem dL_drawn_171 : decode cL_drawn 171 = .ok (.iload 9, 2) := by decide +kernel
theorem dL_drawn_173 : decode cL_drawn 173 = .ok (.invokevirtual 65, 3) := by decide +kernel
theorem dL_drawn_176 : decode cL_drawn 176 = .ok (.pop, 1) := by decide +kernel
theorem dL_drawn_177 : decode cL_drawn 177 = .ok (.iload 10, 2) := by decide +kernel
theorem dL_drawn_179 : decode cL_drawn 179 = .ok (.ifCond .le 16, 3) := by decide +kernel
theorem dL_drawn_182 : decode cL_drawn 182 = .ok (.aload 5, 2) := by decide +kernel
theorem dL_drawn_184 : decode cL_drawn 184 = .ok (.ldc 70, 2) := by decide +kernel
theorem dL_drawn_186 : decode cL_drawn 186 = .ok (.invokevirtual 62, 3) := by decide +kernel
theorem dL_drawn_189 : decode cL_drawn 189 = .ok (.iload 10, 2) := by decide +kernel
theorem dL_drawn_191 : decode cL_drawn 191 = .ok (.invokevirtual 65, 3) := by decide +kernel
theorem dL_drawn_194 : decode cL_drawn 194 = .ok (.pop, 1) := by decide +kernel
theorem dL_drawn_195 : decode cL_drawn 195 = .ok (.iload_n 2, 1) := by decide +kernel
theorem dL_drawn_196 : decode cL_drawn 196 = .ok (.iconst 3, 1) := by decide +kernel
theorem dL_drawn_197 : decode cL_drawn 197 = .ok (.if_icmp .ne 32, 3) := by decide +kernel
theorem dL_drawn_200 : decode cL_drawn 200 = .ok (.iload 8, 2) := by decide +kernel
theorem dL_drawn_202 : decode cL_drawn 202 = .ok (.iload 9, 2) := by decide +kernel
theorem dL_drawn_204 : decode cL_drawn 204 = .ok (.iload 10, 2) := by decide +kernel
theorem dL_drawn_206 : decode cL_drawn 206 = .ok (.iadd, 1) := by decide +kernel
theorem dL_drawn_207 : decode cL_drawn 207 = .ok (.if_icmp .le 22, 3) := by decide +kernel
theorem dL_drawn_210 : decode cL_drawn 210 = .ok (.aload 5, 2) := by decide +kernel
theorem dL_drawn_212 : decode cL_drawn 212 = .ok (.ldc 72, 2) := by decide +kernel
theorem dL_drawn_214 : decode cL_drawn 214 = .ok (.invokevirtual 62, 3) := by decide +kernel
theorem dL_drawn_217 : decode cL_drawn 217 = .ok (.iload 8, 2) := by decide +kernel
theorem dL_drawn_219 : decode cL_drawn 219 = .ok (.iload 9, 2) := by decide +kernel
theorem dL_drawn_221 : decode cL_drawn 221 = .ok (.isub, 1) := by decide +kernel
theorem dL_drawn_222 : decode cL_drawn 222 = .ok (.iload 10, 2) := by decide +kernel
theorem dL_drawn_224 : decode cL_drawn 224 = .ok (.isub, 1) := by decide +kernel
theorem dL_drawn_225 : decode cL_drawn 225 = .ok (.invokevirtual 65, 3) := by decide +kernel
theorem dL_drawn_228 : decode cL_drawn 228 = .ok (.pop, 1) := by decide +kernel
theorem dL_drawn_229 : decode cL_drawn 229 = .ok (.iinc 6 1, 3) := by decide +kernel
theorem dL_drawn_232 : decode cL_drawn 232 = .ok (.goto (-220), 3) := by decide +kernel
theorem dL_drawn_235 : decode cL_drawn 235 = .ok (.aload 5, 2) := by decide +kernel
theorem dL_drawn_237 : decode cL_drawn 237 = .ok (.invokevirtual 46, 3) := by decide +kernel
theorem dL_drawn_240 : decode cL_drawn 240 = .ok (.areturn, 1) := by decide +kernel
theorem dL_law_0 : decode cL_law 0 = .ok (.new 20, 3) := by decide +kernel
theorem dL_law_3 : decode cL_law 3 = .ok (.dup, 1) := by decide +kernel
theorem dL_law_4 : decode cL_law 4 = .ok (.invokespecial 74, 3) := by decide +kernel
theorem dL_law_7 : decode cL_law 7 = .ok (.astore_n 1, 1) := by decide +kernel
theorem dL_law_8 : decode cL_law 8 = .ok (.aload_n 0, 1) := by decide +kernel
theorem dL_law_9 : decode cL_law 9 = .ok (.iconst 0, 1) := by decide +kernel
theorem dL_law_10 : decode cL_law 10 = .ok (.invokestatic 75, 3) := by decide +kernel
theorem dL_law_13 : decode cL_law 13 = .ok (.iconst 1, 1) := by decide +kernel
theorem dL_law_14 : decode cL_law 14 = .ok (.iconst 3, 1) := by decide +kernel
theorem dL_law_15 : decode cL_law 15 = .ok (.invokestatic 50, 3) := by decide +kernel
theorem dL_law_18 : decode cL_law 18 = .ok (.istore_n 2, 1) := by decide +kernel
theorem dL_law_19 : decode cL_law 19 = .ok (.aload_n 1, 1) := by decide +kernel
theorem dL_law_20 : decode cL_law 20 = .ok (.iload_n 2, 1) := by decide +kernel
theorem dL_law_21 : decode cL_law 21 = .ok (.aload_n 0, 1) := by decide +kernel
theorem dL_law_22 : decode cL_law 22 = .ok (.iconst 1, 1) := by decide +kernel
theorem dL_law_23 : decode cL_law 23 = .ok (.invokestatic 75, 3) := by decide +kernel
theorem dL_law_26 : decode cL_law 26 = .ok (.iconst 0, 1) := by decide +kernel
theorem dL_law_27 : decode cL_law 27 = .ok (.iconst 2, 1) := by decide +kernel
theorem dL_law_28 : decode cL_law 28 = .ok (.invokestatic 50, 3) := by decide +kernel
theorem dL_law_31 : decode cL_law 31 = .ok (.ifCond .ne 8, 3) := by decide +kernel
theorem dL_law_34 : decode cL_law 34 = .ok (.bipush 7, 2) := by decide +kernel
theorem dL_law_36 : decode cL_law 36 = .ok (.goto 6, 3) := by decide +kernel
theorem dL_law_39 : decode cL_law 39 = .ok (.sipush 32003, 3) := by decide +kernel
theorem dL_law_42 : decode cL_law 42 = .ok (.invokevirtual 79, 3) := by decide +kernel
theorem dL_law_45 : decode cL_law 45 = .ok (.ifCond .eq 23, 3) := by decide +kernel
theorem dL_law_48 : decode cL_law 48 = .ok (.aload_n 1, 1) := by decide +kernel
theorem dL_law_49 : decode cL_law 49 = .ok (.iconst (-1), 1) := by decide +kernel
theorem dL_law_50 : decode cL_law 50 = .ok (.iconst 0, 1) := by decide +kernel
theorem dL_law_51 : decode cL_law 51 = .ok (.invokevirtual 83, 3) := by decide +kernel
theorem dL_law_54 : decode cL_law 54 = .ok (.iconst (-1), 1) := by decide +kernel
theorem dL_law_55 : decode cL_law 55 = .ok (.if_icmp .ne 13, 3) := by decide +kernel
theorem dL_law_58 : decode cL_law 58 = .ok (.aload_n 1, 1) := by decide +kernel
theorem dL_law_59 : decode cL_law 59 = .ok (.iconst 0, 1) := by decide +kernel
theorem dL_law_60 : decode cL_law 60 = .ok (.iconst 0, 1) := by decide +kernel
theorem dL_law_61 : decode cL_law 61 = .ok (.invokevirtual 87, 3) := by decide +kernel
theorem dL_law_64 : decode cL_law 64 = .ok (.iconst (-1), 1) := by decide +kernel
theorem dL_law_65 : decode cL_law 65 = .ok (.if_icmp .eq 5, 3) := by decide +kernel
theorem dL_law_68 : decode cL_law 68 = .ok (.iconst 0, 1) := by decide +kernel
theorem dL_law_69 : decode cL_law 69 = .ok (.ireturn, 1) := by decide +kernel
theorem dL_law_70 : decode cL_law 70 = .ok (.aload_n 0, 1) := by decide +kernel
theorem dL_law_71 : decode cL_law 71 = .ok (.iconst 2, 1) := by decide +kernel
theorem dL_law_72 : decode cL_law 72 = .ok (.invokestatic 75, 3) := by decide +kernel
theorem dL_law_75 : decode cL_law 75 = .ok (.istore_n 3, 1) := by decide +kernel
theorem dL_law_76 : decode cL_law 76 = .ok (.aload_n 1, 1) := by decide +kernel
theorem dL_law_77 : decode cL_law 77 = .ok (.iload_n 3, 1) := by decide +kernel
theorem dL_law_78 : decode cL_law 78 = .ok (.iconst 1, 1) := by decide +kernel
theorem dL_law_79 : decode cL_law 79 = .ok (.iconst 3, 1) := by decide +kernel
theorem dL_law_80 : decode cL_law 80 = .ok (.invokestatic 50, 3) := by decide +kernel
theorem dL_law_83 : decode cL_law 83 = .ok (.iload_n 3, 1) := by decide +kernel
theorem dL_law_84 : decode cL_law 84 = .ok (.iconst 3, 1) := by decide +kernel
theorem dL_law_85 : decode cL_law 85 = .ok (.ishr, 1) := by decide +kernel
theorem dL_law_86 : decode cL_law 86 = .ok (.iconst 1, 1) := by decide +kernel
theorem dL_law_87 : decode cL_law 87 = .ok (.iconst 3, 1) := by decide +kernel
theorem dL_law_88 : decode cL_law 88 = .ok (.invokestatic 50, 3) := by decide +kernel
theorem dL_law_91 : decode cL_law 91 = .ok (.iload_n 3, 1) := by decide +kernel
theorem dL_law_92 : decode cL_law 92 = .ok (.bipush 6, 2) := by decide +kernel
theorem dL_law_94 : decode cL_law 94 = .ok (.ishr, 1) := by decide +kernel
theorem dL_law_95 : decode cL_law 95 = .ok (.iconst 1, 1) := by decide +kernel
theorem dL_law_96 : decode cL_law 96 = .ok (.iconst 3, 1) := by decide +kernel
theorem dL_law_97 : decode cL_law 97 = .ok (.invokestatic 50, 3) := by decide +kernel
theorem dL_law_100 : decode cL_law 100 = .ok (.invokevirtual 90, 3) := by decide +kernel
theorem dL_law_103 : decode cL_law 103 = .ok (.ifCond .ne 5, 3) := by decide +kernel
theorem dL_law_106 : decode cL_law 106 = .ok (.iconst 0, 1) := by decide +kernel
theorem dL_law_107 : decode cL_law 107 = .ok (.ireturn, 1) := by decide +kernel
theorem dL_law_108 : decode cL_law 108 = .ok (.iconst 0, 1) := by decide +kernel
theorem dL_law_109 : decode cL_law 109 = .ok (.istore 4, 2) := by decide +kernel
theorem dL_law_111 : decode cL_law 111 = .ok (.iload 4, 2) := by decide +kernel
theorem dL_law_113 : decode cL_law 113 = .ok (.iconst 4, 1) := by decide +kernel
theorem dL_law_114 : decode cL_law 114 = .ok (.if_icmp .ge 89, 3) := by decide +kernel
theorem dL_law_117 : decode cL_law 117 = .ok (.aload_n 1, 1) := by decide +kernel
theorem dL_law_118 : decode cL_law 118 = .ok (.iload 4, 2) := by decide +kernel
theorem dL_law_120 : decode cL_law 120 = .ok (.aload_n 0, 1) := by decide +kernel
theorem dL_law_121 : decode cL_law 121 = .ok (.iconst 3, 1) := by decide +kernel
theorem dL_law_122 : decode cL_law 122 = .ok (.iconst 2, 1) := by decide +kernel
theorem dL_law_123 : decode cL_law 123 = .ok (.iload 4, 2) := by decide +kernel
theorem dL_law_125 : decode cL_law 125 = .ok (.imul, 1) := by decide +kernel
theorem dL_law_126 : decode cL_law 126 = .ok (.iadd, 1) := by decide +kernel
theorem dL_law_127 : decode cL_law 127 = .ok (.invokestatic 75, 3) := by decide +kernel
theorem dL_law_130 : decode cL_law 130 = .ok (.aload_n 0, 1) := by decide +kernel
theorem dL_law_131 : decode cL_law 131 = .ok (.iconst 4, 1) := by decide +kernel
theorem dL_law_132 : decode cL_law 132 = .ok (.iconst 2, 1) := by decide +kernel
theorem dL_law_133 : decode cL_law 133 = .ok (.iload 4, 2) := by decide +kernel
theorem dL_law_135 : decode cL_law 135 = .ok (.imul, 1) := by decide +kernel
theorem dL_law_136 : decode cL_law 136 = .ok (.iadd, 1) := by decide +kernel
theorem dL_law_137 : decode cL_law 137 = .ok (.invokestatic 75, 3) := by decide +kernel
theorem dL_law_140 : decode cL_law 140 = .ok (.iload_n 2, 1) := by decide +kernel
theorem dL_law_141 : decode cL_law 141 = .ok (.aload_n 0, 1) := by decide +kernel
theorem dL_law_142 : decode cL_law 142 = .ok (.iconst 3, 1) := by decide +kernel
theorem dL_law_143 : decode cL_law 143 = .ok (.iconst 2, 1) := by decide +kernel
theorem dL_law_144 : decode cL_law 144 = .ok (.iload 4, 2) := by decide +kernel
theorem dL_law_146 : decode cL_law 146 = .ok (.imul, 1) := by decide +kernel
theorem dL_law_147 : decode cL_law 147 = .ok (.iadd, 1) := by decide +kernel
theorem dL_law_148 : decode cL_law 148 = .ok (.invokestatic 75, 3) := by decide +kernel
theorem dL_law_151 : decode cL_law 151 = .ok (.bipush 20, 2) := by decide +kernel
theorem dL_law_153 : decode cL_law 153 = .ok (.ishr, 1) := by decide +kernel
theorem dL_law_154 : decode cL_law 154 = .ok (.iconst 1, 1) := by decide +kernel
theorem dL_law_155 : decode cL_law 155 = .ok (.iconst 4, 1) := by decide +kernel
theorem dL_law_156 : decode cL_law 156 = .ok (.invokestatic 50, 3) := by decide +kernel
theorem dL_law_159 : decode cL_law 159 = .ok (.iload 4, 2) := by decide +kernel
theorem dL_law_161 : decode cL_law 161 = .ok (.ifCond .ne 7, 3) := by decide +kernel
theorem dL_law_164 : decode cL_law 164 = .ok (.iconst 1, 1) := by decide +kernel
theorem dL_law_165 : decode cL_law 165 = .ok (.goto 21, 3) := by decide +kernel
theorem dL_law_168 : decode cL_law 168 = .ok (.aload_n 0, 1) := by decide +kernel
theorem dL_law_169 : decode cL_law 169 = .ok (.iconst 4, 1) := by decide +kernel
theorem dL_law_170 : decode cL_law 170 = .ok (.iconst 2, 1) := by decide +kernel
theorem dL_law_171 : decode cL_law 171 = .ok (.iload 4, 2) := by decide +kernel
theorem dL_law_173 : decode cL_law 173 = .ok (.imul, 1) := by decide +kernel
theorem dL_law_174 : decode cL_law 174 = .ok (.iadd, 1) := by decide +kernel
theorem dL_law_175 : decode cL_law 175 = .ok (.invokestatic 75, 3) := by decide +kernel
theorem dL_law_178 : decode cL_law 178 = .ok (.bipush 20, 2) := by decide +kernel
theorem dL_law_180 : decode cL_law 180 = .ok (.ishr, 1) := by decide +kernel
theorem dL_law_181 : decode cL_law 181 = .ok (.iconst 0, 1) := by decide +kernel
theorem dL_law_182 : decode cL_law 182 = .ok (.iconst 3, 1) := by decide +kernel
theorem dL_law_183 : decode cL_law 183 = .ok (.invokestatic 50, 3) := by decide +kernel
theorem dL_law_186 : decode cL_law 186 = .ok (.invokestatic 94, 3) := by decide +kernel
theorem dL_law_189 : decode cL_law 189 = .ok (.invokestatic 98, 3) := by decide +kernel
theorem dL_law_192 : decode cL_law 192 = .ok (.ifCond .ge 5, 3) := by decide +kernel
theorem dL_law_195 : decode cL_law 195 = .ok (.iconst 0, 1) := by decide +kernel
theorem dL_law_196 : decode cL_law 196 = .ok (.ireturn, 1) := by decide +kernel
theorem dL_law_197 : decode cL_law 197 = .ok (.iinc 4 1, 3) := by decide +kernel
theorem dL_law_200 : decode cL_law 200 = .ok (.goto (-89), 3) := by decide +kernel
theorem dL_law_203 : decode cL_law 203 = .ok (.iconst 0, 1) := by decide +kernel
theorem dL_law_204 : decode cL_law 204 = .ok (.istore 4, 2) := by decide +kernel
theorem dL_law_206 : decode cL_law 206 = .ok (.iload 4, 2) := by decide +kernel
theorem dL_law_208 : decode cL_law 208 = .ok (.iconst 5, 1) := by decide +kernel
theorem dL_law_209 : decode cL_law 209 = .ok (.if_icmp .ge 209, 3) := by decide +kernel
theorem dL_law_212 : decode cL_law 212 = .ok (.aload_n 0, 1) := by decide +kernel
theorem dL_law_213 : decode cL_law 213 = .ok (.bipush 11, 2) := by decide +kernel
theorem dL_law_215 : decode cL_law 215 = .ok (.iload 4, 2) := by decide +kernel
theorem dL_law_217 : decode cL_law 217 = .ok (.iadd, 1) := by decide +kernel
theorem dL_law_218 : decode cL_law 218 = .ok (.invokestatic 75, 3) := by decide +kernel
theorem dL_law_221 : decode cL_law 221 = .ok (.iconst 0, 1) := by decide +kernel
theorem dL_law_222 : decode cL_law 222 = .ok (.bipush 7, 2) := by decide +kernel
theorem dL_law_224 : decode cL_law 224 = .ok (.invokestatic 50, 3) := by decide +kernel
theorem dL_law_227 : decode cL_law 227 = .ok (.iconst 1, 1) := by decide +kernel
theorem dL_law_228 : decode cL_law 228 = .ok (.ishl, 1) := by decide +kernel
theorem dL_law_229 : decode cL_law 229 = .ok (.istore 5, 2) := by decide +kernel
theorem dL_law_231 : decode cL_law 231 = .ok (.aload_n 1, 1) := by decide +kernel
theorem dL_law_232 : decode cL_law 232 = .ok (.iconst 0, 1) := by decide +kernel
theorem dL_law_233 : decode cL_law 233 = .ok (.iload 5, 2) := by decide +kernel
theorem dL_law_235 : decode cL_law 235 = .ok (.invokevirtual 101, 3) := by decide +kernel
theorem dL_law_238 : decode cL_law 238 = .ok (.istore 6, 2) := by decide +kernel
theorem dL_law_240 : decode cL_law 240 = .ok (.iload 6, 2) := by decide +kernel
theorem dL_law_242 : decode cL_law 242 = .ok (.bipush (-2), 2) := by decide +kernel
theorem dL_law_244 : decode cL_law 244 = .ok (.if_icmp .ne 24, 3) := by decide +kernel
theorem dL_law_247 : decode cL_law 247 = .ok (.aload_n 1, 1) := by decide +kernel
theorem dL_law_248 : decode cL_law 248 = .ok (.bipush 8, 2) := by decide +kernel
theorem dL_law_250 : decode cL_law 250 = .ok (.invokevirtual 104, 3) := by decide +kernel
theorem dL_law_253 : decode cL_law 253 = .ok (.ifCond .ne 13, 3) := by decide +kernel
theorem dL_law_256 : decode cL_law 256 = .ok (.aload_n 1, 1) := by decide +kernel
theorem dL_law_257 : decode cL_law 257 = .ok (.iconst (-1), 1) := by decide +kernel
theorem dL_law_258 : decode cL_law 258 = .ok (.iconst 0, 1) := by decide +kernel
theorem dL_law_259 : decode cL_law 259 = .ok (.invokevirtual 83, 3) := by decide +kernel
theorem dL_law_262 : decode cL_law 262 = .ok (.iconst (-1), 1) := by decide +kernel
theorem dL_law_263 : decode cL_law 263 = .ok (.if_icmp .eq 149, 3) := by decide +kernel
theorem dL_law_266 : decode cL_law 266 = .ok (.iconst 0, 1) := by decide +kernel
theorem dL_law_267 : decode cL_law 267 = .ok (.ireturn, 1) := by decide +kernel
theorem dL_law_268 : decode cL_law 268 = .ok (.iload 6, 2) := by decide +kernel
theorem dL_law_270 : decode cL_law 270 = .ok (.ifCond .lt 50, 3) := by decide +kernel
theorem dL_law_273 : decode cL_law 273 = .ok (.iload 6, 2) := by decide +kernel
theorem dL_law_275 : decode cL_law 275 = .ok (.bipush 40, 2) := by decide +kernel
theorem dL_law_277 : decode cL_law 277 = .ok (.if_icmp .gt 43, 3) := by decide +kernel
theorem dL_law_280 : decode cL_law 280 = .ok (.aload_n 1, 1) := by decide +kernel
theorem dL_law_281 : decode cL_law 281 = .ok (.bipush 8, 2) := by decide +kernel
theorem dL_law_283 : decode cL_law 283 = .ok (.invokevirtual 104, 3) := by decide +kernel
theorem dL_law_286 : decode cL_law 286 = .ok (.iconst 1, 1) := by decide +kernel
theorem dL_law_287 : decode cL_law 287 = .ok (.if_icmp .ne 33, 3) := by decide +kernel
theorem dL_law_290 : decode cL_law 290 = .ok (.aload_n 1, 1) := by decide +kernel
theorem dL_law_291 : decode cL_law 291 = .ok (.iconst (-1), 1) := by decide +kernel
theorem dL_law_292 : decode cL_law 292 = .ok (.iconst 0, 1) := by decide +kernel
theorem dL_law_293 : decode cL_law 293 = .ok (.invokevirtual 83, 3) := by decide +kernel
theorem dL_law_296 : decode cL_law 296 = .ok (.iload 6, 2) := by decide +kernel
theorem dL_law_298 : decode cL_law 298 = .ok (.if_icmp .ne 22, 3) := by decide +kernel
theorem dL_law_301 : decode cL_law 301 = .ok (.aload_n 1, 1) := by decide +kernel
theorem dL_law_302 : decode cL_law 302 = .ok (.iconst (-1), 1) := by decide +kernel
theorem dL_law_303 : decode cL_law 303 = .ok (.iconst 2, 1) := by decide +kernel
theorem dL_law_304 : decode cL_law 304 = .ok (.invokevirtual 83, 3) := by decide +kernel
theorem dL_law_307 : decode cL_law 307 = .ok (.iconst 1, 1) := by decide +kernel
theorem dL_law_308 : decode cL_law 308 = .ok (.if_icmp .ne 12, 3) := by decide +kernel
theorem dL_law_311 : decode cL_law 311 = .ok (.aload_n 1, 1) := by decide +kernel
theorem dL_law_312 : decode cL_law 312 = .ok (.iload 6, 2) := by decide +kernel
theorem dL_law_314 : decode cL_law 314 = .ok (.invokestatic 107, 3) := by decide +kernel
theorem dL_law_317 : decode cL_law 317 = .ok (.ifCond .ne 5, 3) := by decide +kernel
theorem dL_law_320 : decode cL_law 320 = .ok (.iconst 0, 1) := by decide +kernel
theorem dL_law_321 : decode cL_law 321 = .ok (.ireturn, 1) := by decide +kernel
theorem dL_law_322 : decode cL_law 322 = .ok (.aload_n 1, 1) := by decide +kernel
theorem dL_law_323 : decode cL_law 323 = .ok (.iconst 1, 1) := by decide +kernel
theorem dL_law_324 : decode cL_law 324 = .ok (.iconst 5, 1) := by decide +kernel
theorem dL_law_325 : decode cL_law 325 = .ok (.invokevirtual 87, 3) := by decide +kernel
theorem dL_law_328 : decode cL_law 328 = .ok (.iconst 1, 1) := by decide +kernel
theorem dL_law_329 : decode cL_law 329 = .ok (.if_icmp .lt 24, 3) := by decide +kernel
theorem dL_law_332 : decode cL_law 332 = .ok (.aload_n 1, 1) := by decide +kernel
theorem dL_law_333 : decode cL_law 333 = .ok (.iconst 5, 1) := by decide +kernel
theorem dL_law_334 : decode cL_law 334 = .ok (.iconst 4, 1) := by decide +kernel
theorem dL_law_335 : decode cL_law 335 = .ok (.invokevirtual 111, 3) := by decide +kernel
theorem dL_law_338 : decode cL_law 338 = .ok (.iconst 1, 1) := by decide +kernel
theorem dL_law_339 : decode cL_law 339 = .ok (.if_icmp .ne 14, 3) := by decide +kernel
theorem dL_law_342 : decode cL_law 342 = .ok (.aload_n 1, 1) := by decide +kernel
theorem dL_law_343 : decode cL_law 343 = .ok (.iconst 5, 1) := by decide +kernel
theorem dL_law_344 : decode cL_law 344 = .ok (.iconst 0, 1) := by decide +kernel
theorem dL_law_345 : decode cL_law 345 = .ok (.iconst 0, 1) := by decide +kernel
theorem dL_law_346 : decode cL_law 346 = .ok (.invokevirtual 114, 3) := by decide +kernel
theorem dL_law_349 : decode cL_law 349 = .ok (.iconst 1, 1) := by decide +kernel
theorem dL_law_350 : decode cL_law 350 = .ok (.if_icmp .eq 5, 3) := by decide +kernel
theorem dL_law_353 : decode cL_law 353 = .ok (.iconst 0, 1) := by decide +kernel
theorem dL_law_354 : decode cL_law 354 = .ok (.ireturn, 1) := by decide +kernel
theorem dL_law_355 : decode cL_law 355 = .ok (.aload_n 1, 1) := by decide +kernel
theorem dL_law_356 : decode cL_law 356 = .ok (.iload 5, 2) := by decide +kernel
theorem dL_law_358 : decode cL_law 358 = .ok (.invokestatic 117, 3) := by decide +kernel
theorem dL_law_361 : decode cL_law 361 = .ok (.ifCond .eq 12, 3) := by decide +kernel
theorem dL_law_364 : decode cL_law 364 = .ok (.aload_n 1, 1) := by decide +kernel
theorem dL_law_365 : decode cL_law 365 = .ok (.iload 5, 2) := by decide +kernel
theorem dL_law_367 : decode cL_law 367 = .ok (.invokestatic 120, 3) := by decide +kernel
theorem dL_law_370 : decode cL_law 370 = .ok (.ifCond .ne 5, 3) := by decide +kernel
theorem dL_law_373 : decode cL_law 373 = .ok (.iconst 0, 1) := by decide +kernel
theorem dL_law_374 : decode cL_law 374 = .ok (.ireturn, 1) := by decide +kernel
theorem dL_law_375 : decode cL_law 375 = .ok (.aload_n 1, 1) := by decide +kernel
theorem dL_law_376 : decode cL_law 376 = .ok (.iconst 5, 1) := by decide +kernel
theorem dL_law_377 : decode cL_law 377 = .ok (.invokevirtual 104, 3) := by decide +kernel
theorem dL_law_380 : decode cL_law 380 = .ok (.istore 7, 2) := by decide +kernel
theorem dL_law_382 : decode cL_law 382 = .ok (.aload_n 0, 1) := by decide +kernel
theorem dL_law_383 : decode cL_law 383 = .ok (.bipush 16, 2) := by decide +kernel
theorem dL_law_385 : decode cL_law 385 = .ok (.iload 4, 2) := by decide +kernel
theorem dL_law_387 : decode cL_law 387 = .ok (.iadd, 1) := by decide +kernel
theorem dL_law_388 : decode cL_law 388 = .ok (.invokestatic 75, 3) := by decide +kernel
theorem dL_law_391 : decode cL_law 391 = .ok (.iconst 1, 1) := by decide +kernel
theorem dL_law_392 : decode cL_law 392 = .ok (.iload 7, 2) := by decide +kernel
theorem dL_law_394 : decode cL_law 394 = .ok (.invokestatic 50, 3) := by decide +kernel
theorem dL_law_397 : decode cL_law 397 = .ok (.istore 8, 2) := by decide +kernel
theorem dL_law_399 : decode cL_law 399 = .ok (.aload_n 1, 1) := by decide +kernel
theorem dL_law_400 : decode cL_law 400 = .ok (.iload 5, 2) := by decide +kernel
theorem dL_law_402 : decode cL_law 402 = .ok (.iload 8, 2) := by decide +kernel
theorem dL_law_404 : decode cL_law 404 = .ok (.invokestatic 123, 3) := by decide +kernel
theorem dL_law_407 : decode cL_law 407 = .ok (.ifCond .ne 5, 3) := by decide +kernel
theorem dL_law_410 : decode cL_law 410 = .ok (.iconst 0, 1) := by decide +kernel
theorem dL_law_411 : decode cL_law 411 = .ok (.ireturn, 1) := by decide +kernel
theorem dL_law_412 : decode cL_law 412 = .ok (.iinc 4 1, 3) := by decide +kernel
theorem dL_law_415 : decode cL_law 415 = .ok (.goto (-209), 3) := by decide +kernel
theorem dL_law_418 : decode cL_law 418 = .ok (.aload_n 1, 1) := by decide +kernel
theorem dL_law_419 : decode cL_law 419 = .ok (.bipush 8, 2) := by decide +kernel
theorem dL_law_421 : decode cL_law 421 = .ok (.iconst 1, 1) := by decide +kernel
theorem dL_law_422 : decode cL_law 422 = .ok (.invokevirtual 101, 3) := by decide +kernel
theorem dL_law_425 : decode cL_law 425 = .ok (.iconst (-1), 1) := by decide +kernel
theorem dL_law_426 : decode cL_law 426 = .ok (.if_icmp .ne 28, 3) := by decide +kernel
theorem dL_law_429 : decode cL_law 429 = .ok (.aload_n 1, 1) := by decide +kernel
theorem dL_law_430 : decode cL_law 430 = .ok (.iconst 0, 1) := by decide +kernel
theorem dL_law_431 : decode cL_law 431 = .ok (.sipush 256, 3) := by decide +kernel
theorem dL_law_434 : decode cL_law 434 = .ok (.invokevirtual 101, 3) := by decide +kernel
theorem dL_law_437 : decode cL_law 437 = .ok (.iconst (-1), 1) := by decide +kernel
theorem dL_law_438 : decode cL_law 438 = .ok (.if_icmp .ne 16, 3) := by decide +kernel
theorem dL_law_441 : decode cL_law 441 = .ok (.aload_n 1, 1) := by decide +kernel
theorem dL_law_442 : decode cL_law 442 = .ok (.bipush 8, 2) := by decide +kernel
theorem dL_law_444 : decode cL_law 444 = .ok (.invokevirtual 104, 3) := by decide +kernel
theorem dL_law_447 : decode cL_law 447 = .ok (.ifCond .lt 7, 3) := by decide +kernel
theorem dL_law_450 : decode cL_law 450 = .ok (.iconst 1, 1) := by decide +kernel
theorem dL_law_451 : decode cL_law 451 = .ok (.goto 4, 3) := by decide +kernel
theorem dL_law_454 : decode cL_law 454 = .ok (.iconst 0, 1) := by decide +kernel
theorem dL_law_455 : decode cL_law 455 = .ok (.ireturn, 1) := by decide +kernel
theorem dL_isStepped_0 : decode cL_isStepped 0 = .ok (.iconst 0, 1) := by decide +kernel
theorem dL_isStepped_1 : decode cL_isStepped 1 = .ok (.istore_n 2, 1) := by decide +kernel
theorem dL_isStepped_2 : decode cL_isStepped 2 = .ok (.iconst (-1), 1) := by decide +kernel
theorem dL_isStepped_3 : decode cL_isStepped 3 = .ok (.istore_n 3, 1) := by decide +kernel
theorem dL_isStepped_4 : decode cL_isStepped 4 = .ok (.iconst 0, 1) := by decide +kernel
theorem dL_isStepped_5 : decode cL_isStepped 5 = .ok (.istore 4, 2) := by decide +kernel
theorem dL_isStepped_7 : decode cL_isStepped 7 = .ok (.iload 4, 2) := by decide +kernel
theorem dL_isStepped_9 : decode cL_isStepped 9 = .ok (.iload_n 1, 1) := by decide +kernel
theorem dL_isStepped_10 : decode cL_isStepped 10 = .ok (.if_icmp .ge 81, 3) := by decide +kernel
theorem dL_isStepped_13 : decode cL_isStepped 13 = .ok (.aload_n 0, 1) := by decide +kernel
theorem dL_isStepped_14 : decode cL_isStepped 14 = .ok (.iload 4, 2) := by decide +kernel
theorem dL_isStepped_16 : decode cL_isStepped 16 = .ok (.iconst 1, 1) := by decide +kernel
theorem dL_isStepped_17 : decode cL_isStepped 17 = .ok (.invokevirtual 83, 3) := by decide +kernel
theorem dL_isStepped_20 : decode cL_isStepped 20 = .ok (.aload_n 0, 1) := by decide +kernel
theorem dL_isStepped_21 : decode cL_isStepped 21 = .ok (.iload 4, 2) := by decide +kernel
theorem dL_isStepped_23 : decode cL_isStepped 23 = .ok (.iconst 2, 1) := by decide +kernel
theorem dL_isStepped_24 : decode cL_isStepped 24 = .ok (.invokevirtual 83, 3) := by decide +kernel
theorem dL_isStepped_27 : decode cL_isStepped 27 = .ok (.if_icmp .le 7, 3) := by decide +kernel
theorem dL_isStepped_30 : decode cL_isStepped 30 = .ok (.iconst 1, 1) := by decide +kernel
theorem dL_isStepped_31 : decode cL_isStepped 31 = .ok (.goto 4, 3) := by decide +kernel
theorem dL_isStepped_34 : decode cL_isStepped 34 = .ok (.iconst 0, 1) := by decide +kernel
theorem dL_isStepped_35 : decode cL_isStepped 35 = .ok (.aload_n 0, 1) := by decide +kernel
theorem dL_isStepped_36 : decode cL_isStepped 36 = .ok (.iload 4, 2) := by decide +kernel
theorem dL_isStepped_38 : decode cL_isStepped 38 = .ok (.iconst 3, 1) := by decide +kernel
theorem dL_isStepped_39 : decode cL_isStepped 39 = .ok (.invokevirtual 83, 3) := by decide +kernel
theorem dL_isStepped_42 : decode cL_isStepped 42 = .ok (.iconst 1, 1) := by decide +kernel
theorem dL_isStepped_43 : decode cL_isStepped 43 = .ok (.if_icmp .ne 7, 3) := by decide +kernel
theorem dL_isStepped_46 : decode cL_isStepped 46 = .ok (.iconst 1, 1) := by decide +kernel
theorem dL_isStepped_47 : decode cL_isStepped 47 = .ok (.goto 4, 3) := by decide +kernel
theorem dL_isStepped_50 : decode cL_isStepped 50 = .ok (.iconst 0, 1) := by decide +kernel
theorem dL_isStepped_51 : decode cL_isStepped 51 = .ok (.if_icmp .ne 14, 3) := by decide +kernel
theorem dL_isStepped_54 : decode cL_isStepped 54 = .ok (.aload_n 0, 1) := by decide +kernel
theorem dL_isStepped_55 : decode cL_isStepped 55 = .ok (.iload 4, 2) := by decide +kernel
theorem dL_isStepped_57 : decode cL_isStepped 57 = .ok (.iconst 4, 1) := by decide +kernel
theorem dL_isStepped_58 : decode cL_isStepped 58 = .ok (.invokevirtual 83, 3) := by decide +kernel
theorem dL_isStepped_61 : decode cL_isStepped 61 = .ok (.iload_n 3, 1) := by decide +kernel
theorem dL_isStepped_62 : decode cL_isStepped 62 = .ok (.if_icmp .ge 5, 3) := by decide +kernel
theorem dL_isStepped_65 : decode cL_isStepped 65 = .ok (.iconst 0, 1) := by decide +kernel
theorem dL_isStepped_66 : decode cL_isStepped 66 = .ok (.ireturn, 1) := by decide +kernel
theorem dL_isStepped_67 : decode cL_isStepped 67 = .ok (.iload_n 2, 1) := by decide +kernel
theorem dL_isStepped_68 : decode cL_isStepped 68 = .ok (.aload_n 0, 1) := by decide +kernel
theorem dL_isStepped_69 : decode cL_isStepped 69 = .ok (.iload 4, 2) := by decide +kernel
theorem dL_isStepped_71 : decode cL_isStepped 71 = .ok (.iconst 3, 1) := by decide +kernel
theorem dL_isStepped_72 : decode cL_isStepped 72 = .ok (.invokevirtual 83, 3) := by decide +kernel
theorem dL_isStepped_75 : decode cL_isStepped 75 = .ok (.iadd, 1) := by decide +kernel
theorem dL_isStepped_76 : decode cL_isStepped 76 = .ok (.istore_n 2, 1) := by decide +kernel
theorem dL_isStepped_77 : decode cL_isStepped 77 = .ok (.aload_n 0, 1) := by decide +kernel
theorem dL_isStepped_78 : decode cL_isStepped 78 = .ok (.iload 4, 2) := by decide +kernel
theorem dL_isStepped_80 : decode cL_isStepped 80 = .ok (.iconst 4, 1) := by decide +kernel
theorem dL_isStepped_81 : decode cL_isStepped 81 = .ok (.invokevirtual 83, 3) := by decide +kernel
theorem dL_isStepped_84 : decode cL_isStepped 84 = .ok (.istore_n 3, 1) := by decide +kernel
theorem dL_isStepped_85 : decode cL_isStepped 85 = .ok (.iinc 4 1, 3) := by decide +kernel
theorem dL_isStepped_88 : decode cL_isStepped 88 = .ok (.goto (-81), 3) := by decide +kernel
theorem dL_isStepped_91 : decode cL_isStepped 91 = .ok (.iload_n 2, 1) := by decide +kernel
theorem dL_isStepped_92 : decode cL_isStepped 92 = .ok (.aload_n 0, 1) := by decide +kernel
theorem dL_isStepped_93 : decode cL_isStepped 93 = .ok (.bipush 9, 2) := by decide +kernel
theorem dL_isStepped_95 : decode cL_isStepped 95 = .ok (.invokevirtual 104, 3) := by decide +kernel
theorem dL_isStepped_98 : decode cL_isStepped 98 = .ok (.invokestatic 127, 3) := by decide +kernel
theorem dL_isStepped_101 : decode cL_isStepped 101 = .ok (.iadd, 1) := by decide +kernel
theorem dL_isStepped_102 : decode cL_isStepped 102 = .ok (.aload_n 0, 1) := by decide +kernel
theorem dL_isStepped_103 : decode cL_isStepped 103 = .ok (.iconst (-1), 1) := by decide +kernel
theorem dL_isStepped_104 : decode cL_isStepped 104 = .ok (.iconst 1, 1) := by decide +kernel
theorem dL_isStepped_105 : decode cL_isStepped 105 = .ok (.invokevirtual 83, 3) := by decide +kernel
theorem dL_isStepped_108 : decode cL_isStepped 108 = .ok (.if_icmp .ne 17, 3) := by decide +kernel
theorem dL_isStepped_111 : decode cL_isStepped 111 = .ok (.aload_n 0, 1) := by decide +kernel
theorem dL_isStepped_112 : decode cL_isStepped 112 = .ok (.iload_n 1, 1) := by decide +kernel
theorem dL_isStepped_113 : decode cL_isStepped 113 = .ok (.iconst 0, 1) := by decide +kernel
theorem dL_isStepped_114 : decode cL_isStepped 114 = .ok (.invokevirtual 83, 3) := by decide +kernel
theorem dL_isStepped_117 : decode cL_isStepped 117 = .ok (.iconst (-1), 1) := by decide +kernel
theorem dL_isStepped_118 : decode cL_isStepped 118 = .ok (.if_icmp .ne 7, 3) := by decide +kernel
theorem dL_isStepped_121 : decode cL_isStepped 121 = .ok (.iconst 1, 1) := by decide +kernel
theorem dL_isStepped_122 : decode cL_isStepped 122 = .ok (.goto 4, 3) := by decide +kernel
theorem dL_isStepped_125 : decode cL_isStepped 125 = .ok (.iconst 0, 1) := by decide +kernel
theorem dL_isStepped_126 : decode cL_isStepped 126 = .ok (.ireturn, 1) := by decide +kernel
theorem dL_isWhole_0 : decode cL_isWhole 0 = .ok (.aload_n 0, 1) := by decide +kernel
theorem dL_isWhole_1 : decode cL_isWhole 1 = .ok (.bipush 9, 2) := by decide +kernel
theorem dL_isWhole_3 : decode cL_isWhole 3 = .ok (.invokevirtual 104, 3) := by decide +kernel
theorem dL_isWhole_6 : decode cL_isWhole 6 = .ok (.istore_n 2, 1) := by decide +kernel
theorem dL_isWhole_7 : decode cL_isWhole 7 = .ok (.aload_n 0, 1) := by decide +kernel
theorem dL_isWhole_8 : decode cL_isWhole 8 = .ok (.iconst 1, 1) := by decide +kernel
theorem dL_isWhole_9 : decode cL_isWhole 9 = .ok (.iconst 5, 1) := by decide +kernel
theorem dL_isWhole_10 : decode cL_isWhole 10 = .ok (.invokevirtual 87, 3) := by decide +kernel
theorem dL_isWhole_13 : decode cL_isWhole 13 = .ok (.pop, 1) := by decide +kernel
theorem dL_isWhole_14 : decode cL_isWhole 14 = .ok (.aload_n 0, 1) := by decide +kernel
theorem dL_isWhole_15 : decode cL_isWhole 15 = .ok (.iconst 2, 1) := by decide +kernel
theorem dL_isWhole_16 : decode cL_isWhole 16 = .ok (.iconst 5, 1) := by decide +kernel
theorem dL_isWhole_17 : decode cL_isWhole 17 = .ok (.iconst 0, 1) := by decide +kernel
theorem dL_isWhole_18 : decode cL_isWhole 18 = .ok (.iconst 5, 1) := by decide +kernel
theorem dL_isWhole_19 : decode cL_isWhole 19 = .ok (.invokevirtual 132, 3) := by decide +kernel
theorem dL_isWhole_22 : decode cL_isWhole 22 = .ok (.ifCond .ge 5, 3) := by decide +kernel
theorem dL_isWhole_25 : decode cL_isWhole 25 = .ok (.iconst 1, 1) := by decide +kernel
theorem dL_isWhole_26 : decode cL_isWhole 26 = .ok (.ireturn, 1) := by decide +kernel
theorem dL_isWhole_27 : decode cL_isWhole 27 = .ok (.iconst 1, 1) := by decide +kernel
theorem dL_isWhole_28 : decode cL_isWhole 28 = .ok (.istore_n 3, 1) := by decide +kernel
theorem dL_isWhole_29 : decode cL_isWhole 29 = .ok (.iload_n 3, 1) := by decide +kernel
theorem dL_isWhole_30 : decode cL_isWhole 30 = .ok (.iconst 4, 1) := by decide +kernel
theorem dL_isWhole_31 : decode cL_isWhole 31 = .ok (.if_icmp .ge 73, 3) := by decide +kernel
theorem dL_isWhole_34 : decode cL_isWhole 34 = .ok (.iload_n 2, 1) := by decide +kernel
theorem dL_isWhole_35 : decode cL_isWhole 35 = .ok (.iload_n 3, 1) := by decide +kernel
theorem dL_isWhole_36 : decode cL_isWhole 36 = .ok (.ishr, 1) := by decide +kernel
theorem dL_isWhole_37 : decode cL_isWhole 37 = .ok (.iconst 1, 1) := by decide +kernel
theorem dL_isWhole_38 : decode cL_isWhole 38 = .ok (.iand, 1) := by decide +kernel
theorem dL_isWhole_39 : decode cL_isWhole 39 = .ok (.ifCond .ne 18, 3) := by decide +kernel
theorem dL_isWhole_42 : decode cL_isWhole 42 = .ok (.aload_n 0, 1) := by decide +kernel
theorem dL_isWhole_43 : decode cL_isWhole 43 = .ok (.iconst 2, 1) := by decide +kernel
theorem dL_isWhole_44 : decode cL_isWhole 44 = .ok (.iload_n 3, 1) := by decide +kernel
theorem dL_isWhole_45 : decode cL_isWhole 45 = .ok (.iadd, 1) := by decide +kernel
theorem dL_isWhole_46 : decode cL_isWhole 46 = .ok (.bipush 6, 2) := by decide +kernel
theorem dL_isWhole_48 : decode cL_isWhole 48 = .ok (.invokevirtual 87, 3) := by decide +kernel
theorem dL_isWhole_51 : decode cL_isWhole 51 = .ok (.iconst (-1), 1) := by decide +kernel
theorem dL_isWhole_52 : decode cL_isWhole 52 = .ok (.if_icmp .eq 46, 3) := by decide +kernel
theorem dL_isWhole_55 : decode cL_isWhole 55 = .ok (.iconst 0, 1) := by decide +kernel
theorem dL_isWhole_56 : decode cL_isWhole 56 = .ok (.ireturn, 1) := by decide +kernel
theorem dL_isWhole_57 : decode cL_isWhole 57 = .ok (.aload_n 0, 1) := by decide +kernel
theorem dL_isWhole_58 : decode cL_isWhole 58 = .ok (.iconst 2, 1) := by decide +kernel
theorem dL_isWhole_59 : decode cL_isWhole 59 = .ok (.iload_n 3, 1) := by decide +kernel
theorem dL_isWhole_60 : decode cL_isWhole 60 = .ok (.iadd, 1) := by decide +kernel
theorem dL_isWhole_61 : decode cL_isWhole 61 = .ok (.bipush 6, 2) := by decide +kernel
theorem dL_isWhole_63 : decode cL_isWhole 63 = .ok (.invokevirtual 87, 3) := by decide +kernel
theorem dL_isWhole_66 : decode cL_isWhole 66 = .ok (.ifCond .ge 5, 3) := by decide +kernel
theorem dL_isWhole_69 : decode cL_isWhole 69 = .ok (.iconst 0, 1) := by decide +kernel
theorem dL_isWhole_70 : decode cL_isWhole 70 = .ok (.ireturn, 1) := by decide +kernel
theorem dL_isWhole_71 : decode cL_isWhole 71 = .ok (.aload_n 0, 1) := by decide +kernel
theorem dL_isWhole_72 : decode cL_isWhole 72 = .ok (.iconst 2, 1) := by decide +kernel
theorem dL_isWhole_73 : decode cL_isWhole 73 = .ok (.bipush 6, 2) := by decide +kernel
theorem dL_isWhole_75 : decode cL_isWhole 75 = .ok (.iload_n 3, 1) := by decide +kernel
theorem dL_isWhole_76 : decode cL_isWhole 76 = .ok (.bipush 6, 2) := by decide +kernel
theorem dL_isWhole_78 : decode cL_isWhole 78 = .ok (.invokevirtual 132, 3) := by decide +kernel
theorem dL_isWhole_81 : decode cL_isWhole 81 = .ok (.ifCond .lt 15, 3) := by decide +kernel
theorem dL_isWhole_84 : decode cL_isWhole 84 = .ok (.aload_n 0, 1) := by decide +kernel
theorem dL_isWhole_85 : decode cL_isWhole 85 = .ok (.iconst 1, 1) := by decide +kernel
theorem dL_isWhole_86 : decode cL_isWhole 86 = .ok (.iconst 5, 1) := by decide +kernel
theorem dL_isWhole_87 : decode cL_isWhole 87 = .ok (.bipush 6, 2) := by decide +kernel
theorem dL_isWhole_89 : decode cL_isWhole 89 = .ok (.iconst 5, 1) := by decide +kernel
theorem dL_isWhole_90 : decode cL_isWhole 90 = .ok (.invokevirtual 132, 3) := by decide +kernel
theorem dL_isWhole_93 : decode cL_isWhole 93 = .ok (.ifCond .ge 5, 3) := by decide +kernel
theorem dL_isWhole_96 : decode cL_isWhole 96 = .ok (.iconst 1, 1) := by decide +kernel
theorem dL_isWhole_97 : decode cL_isWhole 97 = .ok (.ireturn, 1) := by decide +kernel
theorem dL_isWhole_98 : decode cL_isWhole 98 = .ok (.iinc 3 1, 3) := by decide +kernel
theorem dL_isWhole_101 : decode cL_isWhole 101 = .ok (.goto (-72), 3) := by decide +kernel
theorem dL_isWhole_104 : decode cL_isWhole 104 = .ok (.aload_n 0, 1) := by decide +kernel
theorem dL_isWhole_105 : decode cL_isWhole 105 = .ok (.iconst 2, 1) := by decide +kernel
theorem dL_isWhole_106 : decode cL_isWhole 106 = .ok (.bipush 6, 2) := by decide +kernel
theorem dL_isWhole_108 : decode cL_isWhole 108 = .ok (.invokevirtual 87, 3) := by decide +kernel
theorem dL_isWhole_111 : decode cL_isWhole 111 = .ok (.iconst (-1), 1) := by decide +kernel
theorem dL_isWhole_112 : decode cL_isWhole 112 = .ok (.if_icmp .ne 15, 3) := by decide +kernel
theorem dL_isWhole_115 : decode cL_isWhole 115 = .ok (.aload_n 0, 1) := by decide +kernel
theorem dL_isWhole_116 : decode cL_isWhole 116 = .ok (.bipush 10, 2) := by decide +kernel
theorem dL_isWhole_118 : decode cL_isWhole 118 = .ok (.bipush 6, 2) := by decide +kernel
theorem dL_isWhole_120 : decode cL_isWhole 120 = .ok (.invokevirtual 87, 3) := by decide +kernel
theorem dL_isWhole_123 : decode cL_isWhole 123 = .ok (.iconst (-1), 1) := by decide +kernel
theorem dL_isWhole_124 : decode cL_isWhole 124 = .ok (.if_icmp .eq 5, 3) := by decide +kernel
theorem dL_isWhole_127 : decode cL_isWhole 127 = .ok (.iconst 0, 1) := by decide +kernel
theorem dL_isWhole_128 : decode cL_isWhole 128 = .ok (.ireturn, 1) := by decide +kernel
theorem dL_isWhole_129 : decode cL_isWhole 129 = .ok (.aload_n 0, 1) := by decide +kernel
theorem dL_isWhole_130 : decode cL_isWhole 130 = .ok (.iconst 0, 1) := by decide +kernel
theorem dL_isWhole_131 : decode cL_isWhole 131 = .ok (.bipush 6, 2) := by decide +kernel
theorem dL_isWhole_133 : decode cL_isWhole 133 = .ok (.invokevirtual 87, 3) := by decide +kernel
theorem dL_isWhole_136 : decode cL_isWhole 136 = .ok (.pop, 1) := by decide +kernel
theorem dL_isWhole_137 : decode cL_isWhole 137 = .ok (.aload_n 0, 1) := by decide +kernel
theorem dL_isWhole_138 : decode cL_isWhole 138 = .ok (.iconst 1, 1) := by decide +kernel
theorem dL_isWhole_139 : decode cL_isWhole 139 = .ok (.iconst 5, 1) := by decide +kernel
theorem dL_isWhole_140 : decode cL_isWhole 140 = .ok (.bipush 6, 2) := by decide +kernel
theorem dL_isWhole_142 : decode cL_isWhole 142 = .ok (.iconst 5, 1) := by decide +kernel
theorem dL_isWhole_143 : decode cL_isWhole 143 = .ok (.invokevirtual 132, 3) := by decide +kernel
theorem dL_isWhole_146 : decode cL_isWhole 146 = .ok (.ifCond .ne 14, 3) := by decide +kernel
theorem dL_isWhole_149 : decode cL_isWhole 149 = .ok (.iload_n 1, 1) := by decide +kernel
theorem dL_isWhole_150 : decode cL_isWhole 150 = .ok (.iload_n 2, 1) := by decide +kernel
theorem dL_isWhole_151 : decode cL_isWhole 151 = .ok (.iand, 1) := by decide +kernel
theorem dL_isWhole_152 : decode cL_isWhole 152 = .ok (.iload_n 2, 1) := by decide +kernel
theorem dL_isWhole_153 : decode cL_isWhole 153 = .ok (.if_icmp .ne 7, 3) := by decide +kernel
theorem dL_isWhole_156 : decode cL_isWhole 156 = .ok (.iconst 1, 1) := by decide +kernel
theorem dL_isWhole_157 : decode cL_isWhole 157 = .ok (.goto 4, 3) := by decide +kernel
theorem dL_isWhole_160 : decode cL_isWhole 160 = .ok (.iconst 0, 1) := by decide +kernel
theorem dL_isWhole_161 : decode cL_isWhole 161 = .ok (.ireturn, 1) := by decide +kernel
theorem dL_isLeft_0 : decode cL_isLeft 0 = .ok (.aload_n 0, 1) := by decide +kernel
theorem dL_isLeft_1 : decode cL_isLeft 1 = .ok (.iconst 0, 1) := by decide +kernel
theorem dL_isLeft_2 : decode cL_isLeft 2 = .ok (.bipush 6, 2) := by decide +kernel
theorem dL_isLeft_4 : decode cL_isLeft 4 = .ok (.invokevirtual 87, 3) := by decide +kernel
theorem dL_isLeft_7 : decode cL_isLeft 7 = .ok (.ifCond .ne 5, 3) := by decide +kernel
theorem dL_isLeft_10 : decode cL_isLeft 10 = .ok (.iconst 1, 1) := by decide +kernel
theorem dL_isLeft_11 : decode cL_isLeft 11 = .ok (.ireturn, 1) := by decide +kernel
theorem dL_isLeft_12 : decode cL_isLeft 12 = .ok (.iconst 1, 1) := by decide +kernel
theorem dL_isLeft_13 : decode cL_isLeft 13 = .ok (.istore_n 2, 1) := by decide +kernel
theorem dL_isLeft_14 : decode cL_isLeft 14 = .ok (.iload_n 2, 1) := by decide +kernel
theorem dL_isLeft_15 : decode cL_isLeft 15 = .ok (.iconst 4, 1) := by decide +kernel
theorem dL_isLeft_16 : decode cL_isLeft 16 = .ok (.if_icmp .ge 86, 3) := by decide +kernel
theorem dL_isLeft_19 : decode cL_isLeft 19 = .ok (.iload_n 1, 1) := by decide +kernel
theorem dL_isLeft_20 : decode cL_isLeft 20 = .ok (.iload_n 2, 1) := by decide +kernel
theorem dL_isLeft_21 : decode cL_isLeft 21 = .ok (.ishr, 1) := by decide +kernel
theorem dL_isLeft_22 : decode cL_isLeft 22 = .ok (.iconst 1, 1) := by decide +kernel
theorem dL_isLeft_23 : decode cL_isLeft 23 = .ok (.iand, 1) := by decide +kernel
theorem dL_isLeft_24 : decode cL_isLeft 24 = .ok (.ifCond .eq 72, 3) := by decide +kernel
theorem dL_isLeft_27 : decode cL_isLeft 27 = .ok (.aload_n 0, 1) := by decide +kernel
theorem dL_isLeft_28 : decode cL_isLeft 28 = .ok (.iload_n 2, 1) := by decide +kernel
theorem dL_isLeft_29 : decode cL_isLeft 29 = .ok (.iconst (-1), 1) := by decide +kernel
theorem dL_isLeft_30 : decode cL_isLeft 30 = .ok (.iconst 0, 1) := by decide +kernel
theorem dL_isLeft_31 : decode cL_isLeft 31 = .ok (.invokevirtual 114, 3) := by decide +kernel
theorem dL_isLeft_34 : decode cL_isLeft 34 = .ok (.ifCond .ne 6, 3) := by decide +kernel
theorem dL_isLeft_37 : decode cL_isLeft 37 = .ok (.goto 59, 3) := by decide +kernel
theorem dL_isLeft_40 : decode cL_isLeft 40 = .ok (.aload_n 0, 1) := by decide +kernel
theorem dL_isLeft_41 : decode cL_isLeft 41 = .ok (.iload_n 2, 1) := by decide +kernel
theorem dL_isLeft_42 : decode cL_isLeft 42 = .ok (.iconst 0, 1) := by decide +kernel
theorem dL_isLeft_43 : decode cL_isLeft 43 = .ok (.iconst 1, 1) := by decide +kernel
theorem dL_isLeft_44 : decode cL_isLeft 44 = .ok (.invokevirtual 114, 3) := by decide +kernel
theorem dL_isLeft_47 : decode cL_isLeft 47 = .ok (.aload_n 0, 1) := by decide +kernel
theorem dL_isLeft_48 : decode cL_isLeft 48 = .ok (.bipush 6, 2) := by decide +kernel
theorem dL_isLeft_50 : decode cL_isLeft 50 = .ok (.iconst 0, 1) := by decide +kernel
theorem dL_isLeft_51 : decode cL_isLeft 51 = .ok (.iconst 1, 1) := by decide +kernel
theorem dL_isLeft_52 : decode cL_isLeft 52 = .ok (.invokevirtual 114, 3) := by decide +kernel
theorem dL_isLeft_55 : decode cL_isLeft 55 = .ok (.if_icmp .gt 41, 3) := by decide +kernel
theorem dL_isLeft_58 : decode cL_isLeft 58 = .ok (.aload_n 0, 1) := by decide +kernel
theorem dL_isLeft_59 : decode cL_isLeft 59 = .ok (.iload_n 2, 1) := by decide +kernel
theorem dL_isLeft_60 : decode cL_isLeft 60 = .ok (.iconst 0, 1) := by decide +kernel
theorem dL_isLeft_61 : decode cL_isLeft 61 = .ok (.iconst 2, 1) := by decide +kernel
theorem dL_isLeft_62 : decode cL_isLeft 62 = .ok (.invokevirtual 114, 3) := by decide +kernel
theorem dL_isLeft_65 : decode cL_isLeft 65 = .ok (.aload_n 0, 1) := by decide +kernel
theorem dL_isLeft_66 : decode cL_isLeft 66 = .ok (.bipush 6, 2) := by decide +kernel
theorem dL_isLeft_68 : decode cL_isLeft 68 = .ok (.iconst 0, 1) := by decide +kernel
theorem dL_isLeft_69 : decode cL_isLeft 69 = .ok (.iconst 2, 1) := by decide +kernel
theorem dL_isLeft_70 : decode cL_isLeft 70 = .ok (.invokevirtual 114, 3) := by decide +kernel
theorem dL_isLeft_73 : decode cL_isLeft 73 = .ok (.if_icmp .gt 23, 3) := by decide +kernel
theorem dL_isLeft_76 : decode cL_isLeft 76 = .ok (.aload_n 0, 1) := by decide +kernel
theorem dL_isLeft_77 : decode cL_isLeft 77 = .ok (.iload_n 2, 1) := by decide +kernel
theorem dL_isLeft_78 : decode cL_isLeft 78 = .ok (.iconst 0, 1) := by decide +kernel
theorem dL_isLeft_79 : decode cL_isLeft 79 = .ok (.iconst 3, 1) := by decide +kernel
theorem dL_isLeft_80 : decode cL_isLeft 80 = .ok (.invokevirtual 114, 3) := by decide +kernel
theorem dL_isLeft_83 : decode cL_isLeft 83 = .ok (.aload_n 0, 1) := by decide +kernel
theorem dL_isLeft_84 : decode cL_isLeft 84 = .ok (.bipush 6, 2) := by decide +kernel
theorem dL_isLeft_86 : decode cL_isLeft 86 = .ok (.iconst 0, 1) := by decide +kernel
theorem dL_isLeft_87 : decode cL_isLeft 87 = .ok (.iconst 3, 1) := by decide +kernel
theorem dL_isLeft_88 : decode cL_isLeft 88 = .ok (.invokevirtual 114, 3) := by decide +kernel
theorem dL_isLeft_91 : decode cL_isLeft 91 = .ok (.if_icmp .gt 5, 3) := by decide +kernel
theorem dL_isLeft_94 : decode cL_isLeft 94 = .ok (.iconst 0, 1) := by decide +kernel
theorem dL_isLeft_95 : decode cL_isLeft 95 = .ok (.ireturn, 1) := by decide +kernel
theorem dL_isLeft_96 : decode cL_isLeft 96 = .ok (.iinc 2 1, 3) := by decide +kernel
theorem dL_isLeft_99 : decode cL_isLeft 99 = .ok (.goto (-85), 3) := by decide +kernel
theorem dL_isLeft_102 : decode cL_isLeft 102 = .ok (.iconst 1, 1) := by decide +kernel
theorem dL_isLeft_103 : decode cL_isLeft 103 = .ok (.ireturn, 1) := by decide +kernel
theorem dL_isRest_0 : decode cL_isRest 0 = .ok (.aload_n 0, 1) := by decide +kernel
theorem dL_isRest_1 : decode cL_isRest 1 = .ok (.iconst 0, 1) := by decide +kernel
theorem dL_isRest_2 : decode cL_isRest 2 = .ok (.iload_n 1, 1) := by decide +kernel
theorem dL_isRest_3 : decode cL_isRest 3 = .ok (.iload_n 2, 1) := by decide +kernel
theorem dL_isRest_4 : decode cL_isRest 4 = .ok (.iconst 5, 1) := by decide +kernel
theorem dL_isRest_5 : decode cL_isRest 5 = .ok (.invokevirtual 136, 3) := by decide +kernel
theorem dL_isRest_8 : decode cL_isRest 8 = .ok (.istore_n 3, 1) := by decide +kernel
theorem dL_isRest_9 : decode cL_isRest 9 = .ok (.iload_n 3, 1) := by decide +kernel
theorem dL_isRest_10 : decode cL_isRest 10 = .ok (.ifCond .ge 5, 3) := by decide +kernel
theorem dL_isRest_13 : decode cL_isRest 13 = .ok (.iconst 1, 1) := by decide +kernel
theorem dL_isRest_14 : decode cL_isRest 14 = .ok (.ireturn, 1) := by decide +kernel
theorem dL_isRest_15 : decode cL_isRest 15 = .ok (.aload_n 0, 1) := by decide +kernel
theorem dL_isRest_16 : decode cL_isRest 16 = .ok (.iconst 5, 1) := by decide +kernel
theorem dL_isRest_17 : decode cL_isRest 17 = .ok (.iload_n 1, 1) := by decide +kernel
theorem dL_isRest_18 : decode cL_isRest 18 = .ok (.iload_n 2, 1) := by decide +kernel
theorem dL_isRest_19 : decode cL_isRest 19 = .ok (.bipush 6, 2) := by decide +kernel
theorem dL_isRest_21 : decode cL_isRest 21 = .ok (.invokevirtual 136, 3) := by decide +kernel
theorem dL_isRest_24 : decode cL_isRest 24 = .ok (.iload_n 3, 1) := by decide +kernel
theorem dL_isRest_25 : decode cL_isRest 25 = .ok (.if_icmp .ne 20, 3) := by decide +kernel
theorem dL_isRest_28 : decode cL_isRest 28 = .ok (.aload_n 0, 1) := by decide +kernel
theorem dL_isRest_29 : decode cL_isRest 29 = .ok (.iconst 5, 1) := by decide +kernel
theorem dL_isRest_30 : decode cL_isRest 30 = .ok (.invokestatic 139, 3) := by decide +kernel
theorem dL_isRest_33 : decode cL_isRest 33 = .ok (.aload_n 0, 1) := by decide +kernel
theorem dL_isRest_34 : decode cL_isRest 34 = .ok (.bipush 6, 2) := by decide +kernel
theorem dL_isRest_36 : decode cL_isRest 36 = .ok (.invokestatic 139, 3) := by decide +kernel
theorem dL_isRest_39 : decode cL_isRest 39 = .ok (.invokevirtual 143, 3) := by decide +kernel
theorem dL_isRest_42 : decode cL_isRest 42 = .ok (.ifCond .ne 5, 3) := by decide +kernel
theorem dL_isRest_45 : decode cL_isRest 45 = .ok (.iconst 0, 1) := by decide +kernel
theorem dL_isRest_46 : decode cL_isRest 46 = .ok (.ireturn, 1) := by decide +kernel
theorem dL_isRest_47 : decode cL_isRest 47 = .ok (.iconst 0, 1) := by decide +kernel
theorem dL_isRest_48 : decode cL_isRest 48 = .ok (.istore 4, 2) := by decide +kernel
theorem dL_isRest_50 : decode cL_isRest 50 = .ok (.iload 4, 2) := by decide +kernel
theorem dL_isRest_52 : decode cL_isRest 52 = .ok (.iload_n 3, 1) := by decide +kernel
theorem dL_isRest_53 : decode cL_isRest 53 = .ok (.if_icmp .ge 23, 3) := by decide +kernel
theorem dL_isRest_56 : decode cL_isRest 56 = .ok (.aload_n 0, 1) := by decide +kernel
theorem dL_isRest_57 : decode cL_isRest 57 = .ok (.iconst 5, 1) := by decide +kernel
theorem dL_isRest_58 : decode cL_isRest 58 = .ok (.iload 4, 2) := by decide +kernel
theorem dL_isRest_60 : decode cL_isRest 60 = .ok (.iconst 4, 1) := by decide +kernel
theorem dL_isRest_61 : decode cL_isRest 61 = .ok (.invokevirtual 114, 3) := by decide +kernel
theorem dL_isRest_64 : decode cL_isRest 64 = .ok (.iload_n 2, 1) := by decide +kernel
theorem dL_isRest_65 : decode cL_isRest 65 = .ok (.if_icmp .lt 5, 3) := by decide +kernel
theorem dL_isRest_68 : decode cL_isRest 68 = .ok (.iconst 0, 1) := by decide +kernel
theorem dL_isRest_69 : decode cL_isRest 69 = .ok (.ireturn, 1) := by decide +kernel
theorem dL_isRest_70 : decode cL_isRest 70 = .ok (.iinc 4 1, 3) := by decide +kernel
theorem dL_isRest_73 : decode cL_isRest 73 = .ok (.goto (-23), 3) := by decide +kernel
theorem dL_isRest_76 : decode cL_isRest 76 = .ok (.aload_n 0, 1) := by decide +kernel
theorem dL_isRest_77 : decode cL_isRest 77 = .ok (.iconst 1, 1) := by decide +kernel
theorem dL_isRest_78 : decode cL_isRest 78 = .ok (.iconst 0, 1) := by decide +kernel
theorem dL_isRest_79 : decode cL_isRest 79 = .ok (.iconst 5, 1) := by decide +kernel
theorem dL_isRest_80 : decode cL_isRest 80 = .ok (.bipush 6, 2) := by decide +kernel
theorem dL_isRest_82 : decode cL_isRest 82 = .ok (.invokevirtual 132, 3) := by decide +kernel
theorem dL_isRest_85 : decode cL_isRest 85 = .ok (.ifCond .lt 18, 3) := by decide +kernel
theorem dL_isRest_88 : decode cL_isRest 88 = .ok (.aload_n 0, 1) := by decide +kernel
theorem dL_isRest_89 : decode cL_isRest 89 = .ok (.bipush 6, 2) := by decide +kernel
theorem dL_isRest_91 : decode cL_isRest 91 = .ok (.iload_n 1, 1) := by decide +kernel
theorem dL_isRest_92 : decode cL_isRest 92 = .ok (.iload_n 2, 1) := by decide +kernel
theorem dL_isRest_93 : decode cL_isRest 93 = .ok (.bipush 6, 2) := by decide +kernel
theorem dL_isRest_95 : decode cL_isRest 95 = .ok (.invokevirtual 136, 3) := by decide +kernel
theorem dL_isRest_98 : decode cL_isRest 98 = .ok (.ifCond .eq 5, 3) := by decide +kernel
theorem dL_isRest_101 : decode cL_isRest 101 = .ok (.iconst 0, 1) := by decide +kernel
theorem dL_isRest_102 : decode cL_isRest 102 = .ok (.ireturn, 1) := by decide +kernel
theorem dL_isRest_103 : decode cL_isRest 103 = .ok (.aload_n 0, 1) := by decide +kernel
theorem dL_isRest_104 : decode cL_isRest 104 = .ok (.iconst 0, 1) := by decide +kernel
theorem dL_isRest_105 : decode cL_isRest 105 = .ok (.bipush 7, 2) := by decide +kernel
theorem dL_isRest_107 : decode cL_isRest 107 = .ok (.invokevirtual 87, 3) := by decide +kernel
theorem dL_isRest_110 : decode cL_isRest 110 = .ok (.pop, 1) := by decide +kernel
theorem dL_isRest_111 : decode cL_isRest 111 = .ok (.iconst 1, 1) := by decide +kernel
theorem dL_isRest_112 : decode cL_isRest 112 = .ok (.istore 4, 2) := by decide +kernel
theorem dL_isRest_114 : decode cL_isRest 114 = .ok (.iload 4, 2) := by decide +kernel
theorem dL_isRest_116 : decode cL_isRest 116 = .ok (.iconst 4, 1) := by decide +kernel
theorem dL_isRest_117 : decode cL_isRest 117 = .ok (.if_icmp .ge 34, 3) := by decide +kernel
theorem dL_isRest_120 : decode cL_isRest 120 = .ok (.iload_n 1, 1) := by decide +kernel
theorem dL_isRest_121 : decode cL_isRest 121 = .ok (.iload 4, 2) := by decide +kernel
theorem dL_isRest_123 : decode cL_isRest 123 = .ok (.ishr, 1) := by decide +kernel
theorem dL_isRest_124 : decode cL_isRest 124 = .ok (.iconst 1, 1) := by decide +kernel
theorem dL_isRest_125 : decode cL_isRest 125 = .ok (.iand, 1) := by decide +kernel
theorem dL_isRest_126 : decode cL_isRest 126 = .ok (.iconst 1, 1) := by decide +kernel
theorem dL_isRest_127 : decode cL_isRest 127 = .ok (.if_icmp .ne 18, 3) := by decide +kernel
theorem dL_isRest_130 : decode cL_isRest 130 = .ok (.aload_n 0, 1) := by decide +kernel
theorem dL_isRest_131 : decode cL_isRest 131 = .ok (.iload 4, 2) := by decide +kernel
theorem dL_isRest_133 : decode cL_isRest 133 = .ok (.iload_n 1, 1) := by decide +kernel
theorem dL_isRest_134 : decode cL_isRest 134 = .ok (.iload_n 2, 1) := by decide +kernel
theorem dL_isRest_135 : decode cL_isRest 135 = .ok (.bipush 6, 2) := by decide +kernel
theorem dL_isRest_137 : decode cL_isRest 137 = .ok (.invokevirtual 136, 3) := by decide +kernel
theorem dL_isRest_140 : decode cL_isRest 140 = .ok (.ifCond .eq 5, 3) := by decide +kernel
theorem dL_isRest_143 : decode cL_isRest 143 = .ok (.iconst 0, 1) := by decide +kernel
theorem dL_isRest_144 : decode cL_isRest 144 = .ok (.ireturn, 1) := by decide +kernel
theorem dL_isRest_145 : decode cL_isRest 145 = .ok (.iinc 4 1, 3) := by decide +kernel
theorem dL_isRest_148 : decode cL_isRest 148 = .ok (.goto (-34), 3) := by decide +kernel
theorem dL_isRest_151 : decode cL_isRest 151 = .ok (.aload_n 0, 1) := by decide +kernel
theorem dL_isRest_152 : decode cL_isRest 152 = .ok (.iload_n 1, 1) := by decide +kernel
theorem dL_isRest_153 : decode cL_isRest 153 = .ok (.iload_n 2, 1) := by decide +kernel
theorem dL_isRest_154 : decode cL_isRest 154 = .ok (.iconst (-1), 1) := by decide +kernel
theorem dL_isRest_155 : decode cL_isRest 155 = .ok (.invokevirtual 147, 3) := by decide +kernel
theorem dL_isRest_158 : decode cL_isRest 158 = .ok (.ifCond .lt 7, 3) := by decide +kernel
theorem dL_isRest_161 : decode cL_isRest 161 = .ok (.iconst 1, 1) := by decide +kernel
theorem dL_isRest_162 : decode cL_isRest 162 = .ok (.goto 4, 3) := by decide +kernel
theorem dL_isRest_165 : decode cL_isRest 165 = .ok (.iconst 0, 1) := by decide +kernel
theorem dL_isRest_166 : decode cL_isRest 166 = .ok (.ireturn, 1) := by decide +kernel
end
section
theorem dX0_init_0 : decode cX0_init 0 = .ok (.aload_n 0, 1) := by decide +kernel
theorem dX0_init_1 : decode cX0_init 1 = .ok (.invokespecial 3, 3) := by decide +kernel
theorem dX0_init_4 : decode cX0_init 4 = .ok (.aload_n 0, 1) := by decide +kernel
theorem dX0_init_5 : decode cX0_init 5 = .ok (.bipush 20, 2) := by decide +kernel
theorem dX0_init_7 : decode cX0_init 7 = .ok (.anewarray 9, 3) := by decide +kernel
theorem dX0_init_10 : decode cX0_init 10 = .ok (.putfield 11, 3) := by decide +kernel
theorem dX0_init_13 : decode cX0_init 13 = .ok (.aload_n 0, 1) := by decide +kernel
theorem dX0_init_14 : decode cX0_init 14 = .ok (.bipush 40, 2) := by decide +kernel
theorem dX0_init_16 : decode cX0_init 16 = .ok (.iconst 5, 1) := by decide +kernel
theorem dX0_init_17 : decode cX0_init 17 = .ok (.multianewarray 17 2, 4) := by decide +kernel
theorem dX0_init_21 : decode cX0_init 21 = .ok (.putfield 19, 3) := by decide +kernel
theorem dX0_init_24 : decode cX0_init 24 = .ok (.aload_n 0, 1) := by decide +kernel
theorem dX0_init_25 : decode cX0_init 25 = .ok (.new 9, 3) := by decide +kernel
theorem dX0_init_28 : decode cX0_init 28 = .ok (.dup, 1) := by decide +kernel
theorem dX0_init_29 : decode cX0_init 29 = .ok (.invokespecial 22, 3) := by decide +kernel
theorem dX0_init_32 : decode cX0_init 32 = .ok (.putfield 23, 3) := by decide +kernel
theorem dX0_init_35 : decode cX0_init 35 = .ok (.aload_n 0, 1) := by decide +kernel
theorem dX0_init_36 : decode cX0_init 36 = .ok (.new 9, 3) := by decide +kernel
theorem dX0_init_39 : decode cX0_init 39 = .ok (.dup, 1) := by decide +kernel
theorem dX0_init_40 : decode cX0_init 40 = .ok (.invokespecial 22, 3) := by decide +kernel
theorem dX0_init_43 : decode cX0_init 43 = .ok (.putfield 27, 3) := by decide +kernel
theorem dX0_init_46 : decode cX0_init 46 = .ok (.iconst 0, 1) := by decide +kernel
theorem dX0_init_47 : decode cX0_init 47 = .ok (.istore_n 1, 1) := by decide +kernel
theorem dX0_init_48 : decode cX0_init 48 = .ok (.iload_n 1, 1) := by decide +kernel
theorem dX0_init_49 : decode cX0_init 49 = .ok (.bipush 20, 2) := by decide +kernel
theorem dX0_init_51 : decode cX0_init 51 = .ok (.if_icmp .ge 22, 3) := by decide +kernel
theorem dX0_init_54 : decode cX0_init 54 = .ok (.aload_n 0, 1) := by decide +kernel
theorem dX0_init_55 : decode cX0_init 55 = .ok (.getfield 11, 3) := by decide +kernel
theorem dX0_init_58 : decode cX0_init 58 = .ok (.iload_n 1, 1) := by decide +kernel
theorem dX0_init_59 : decode cX0_init 59 = .ok (.new 9, 3) := by decide +kernel
theorem dX0_init_62 : decode cX0_init 62 = .ok (.dup, 1) := by decide +kernel
theorem dX0_init_63 : decode cX0_init 63 = .ok (.invokespecial 22, 3) := by decide +kernel
theorem dX0_init_66 : decode cX0_init 66 = .ok (.aastore, 1) := by decide +kernel
theorem dX0_init_67 : decode cX0_init 67 = .ok (.iinc 1 1, 3) := by decide +kernel
theorem dX0_init_70 : decode cX0_init 70 = .ok (.goto (-22), 3) := by decide +kernel
theorem dX0_init_73 : decode cX0_init 73 = .ok (.return_, 1) := by decide +kernel
theorem dX0_divide_0 : decode cX0_divide 0 = .ok (.aload_n 0, 1) := by decide +kernel
theorem dX0_divide_1 : decode cX0_divide 1 = .ok (.aload_n 1, 1) := by decide +kernel
theorem dX0_divide_2 : decode cX0_divide 2 = .ok (.iload_n 2, 1) := by decide +kernel
theorem dX0_divide_3 : decode cX0_divide 3 = .ok (.iload_n 3, 1) := by decide +kernel
theorem dX0_divide_4 : decode cX0_divide 4 = .ok (.aload 4, 2) := by decide +kernel
theorem dX0_divide_6 : decode cX0_divide 6 = .ok (.invokevirtual 30, 3) := by decide +kernel
theorem dX0_divide_9 : decode cX0_divide 9 = .ok (.aload_n 0, 1) := by decide +kernel
theorem dX0_divide_10 : decode cX0_divide 10 = .ok (.invokevirtual 34, 3) := by decide +kernel
theorem dX0_divide_13 : decode cX0_divide 13 = .ok (.istore 5, 2) := by decide +kernel
theorem dX0_divide_15 : decode cX0_divide 15 = .ok (.iconst 0, 1) := by decide +kernel
theorem dX0_divide_16 : decode cX0_divide 16 = .ok (.istore 6, 2) := by decide +kernel
theorem dX0_divide_18 : decode cX0_divide 18 = .ok (.iload 6, 2) := by decide +kernel
theorem dX0_divide_20 : decode cX0_divide 20 = .ok (.bipush 40, 2) := by decide +kernel
theorem dX0_divide_22 : decode cX0_divide 22 = .ok (.if_icmp .ge 32, 3) := by decide +kernel
theorem dX0_divide_25 : decode cX0_divide 25 = .ok (.iload 5, 2) := by decide +kernel
theorem dX0_divide_27 : decode cX0_divide 27 = .ok (.iconst (-1), 1) := by decide +kernel
theorem dX0_divide_28 : decode cX0_divide 28 = .ok (.if_icmp .eq 26, 3) := by decide +kernel
theorem dX0_divide_31 : decode cX0_divide 31 = .ok (.aload_n 0, 1) := by decide +kernel
theorem dX0_divide_32 : decode cX0_divide 32 = .ok (.iload 5, 2) := by decide +kernel
theorem dX0_divide_34 : decode cX0_divide 34 = .ok (.aload 4, 2) := by decide +kernel
theorem dX0_divide_36 : decode cX0_divide 36 = .ok (.invokevirtual 38, 3) := by decide +kernel
theorem dX0_divide_39 : decode cX0_divide 39 = .ok (.ifCond .eq 15, 3) := by decide +kernel
theorem dX0_divide_42 : decode cX0_divide 42 = .ok (.aload_n 0, 1) := by decide +kernel
theorem dX0_divide_43 : decode cX0_divide 43 = .ok (.invokevirtual 34, 3) := by decide +kernel
theorem dX0_divide_46 : decode cX0_divide 46 = .ok (.istore 5, 2) := by decide +kernel
theorem dX0_divide_48 : decode cX0_divide 48 = .ok (.iinc 6 1, 3) := by decide +kernel
theorem dX0_divide_51 : decode cX0_divide 51 = .ok (.goto (-33), 3) := by decide +kernel
theorem dX0_divide_54 : decode cX0_divide 54 = .ok (.aload_n 0, 1) := by decide +kernel
theorem dX0_divide_55 : decode cX0_divide 55 = .ok (.iload 5, 2) := by decide +kernel
theorem dX0_divide_57 : decode cX0_divide 57 = .ok (.iconst (-1), 1) := by decide +kernel
theorem dX0_divide_58 : decode cX0_divide 58 = .ok (.if_icmp .ne 7, 3) := by decide +kernel
theorem dX0_divide_61 : decode cX0_divide 61 = .ok (.iconst 1, 1) := by decide +kernel
theorem dX0_divide_62 : decode cX0_divide 62 = .ok (.goto 4, 3) := by decide +kernel
theorem dX0_divide_65 : decode cX0_divide 65 = .ok (.iconst 0, 1) := by decide +kernel
theorem dX0_divide_66 : decode cX0_divide 66 = .ok (.putfield 42, 3) := by decide +kernel
theorem dX0_divide_69 : decode cX0_divide 69 = .ok (.aload_n 0, 1) := by decide +kernel
theorem dX0_divide_70 : decode cX0_divide 70 = .ok (.getfield 42, 3) := by decide +kernel
theorem dX0_divide_73 : decode cX0_divide 73 = .ok (.ifCond .eq 10, 3) := by decide +kernel
theorem dX0_divide_76 : decode cX0_divide 76 = .ok (.aload_n 0, 1) := by decide +kernel
theorem dX0_divide_77 : decode cX0_divide 77 = .ok (.getfield 46, 3) := by decide +kernel
theorem dX0_divide_80 : decode cX0_divide 80 = .ok (.goto 5, 3) := by decide +kernel
theorem dX0_divide_83 : decode cX0_divide 83 = .ok (.bipush (-2), 2) := by decide +kernel
theorem dX0_divide_85 : decode cX0_divide 85 = .ok (.ireturn, 1) := by decide +kernel
theorem dX0_keptOne_0 : decode cX0_keptOne 0 = .ok (.aload_n 0, 1) := by decide +kernel
theorem dX0_keptOne_1 : decode cX0_keptOne 1 = .ok (.getfield 42, 3) := by decide +kernel
theorem dX0_keptOne_4 : decode cX0_keptOne 4 = .ok (.ifCond .eq 13, 3) := by decide +kernel
theorem dX0_keptOne_7 : decode cX0_keptOne 7 = .ok (.iload_n 1, 1) := by decide +kernel
theorem dX0_keptOne_8 : decode cX0_keptOne 8 = .ok (.ifCond .lt 9, 3) := by decide +kernel
theorem dX0_keptOne_11 : decode cX0_keptOne 11 = .ok (.iload_n 1, 1) := by decide +kernel
theorem dX0_keptOne_12 : decode cX0_keptOne 12 = .ok (.bipush 10, 2) := by decide +kernel
theorem dX0_keptOne_14 : decode cX0_keptOne 14 = .ok (.if_icmp .lt 5, 3) := by decide +kernel
theorem dX0_keptOne_17 : decode cX0_keptOne 17 = .ok (.aconst_null, 1) := by decide +kernel
theorem dX0_keptOne_18 : decode cX0_keptOne 18 = .ok (.areturn, 1) := by decide +kernel
theorem dX0_keptOne_19 : decode cX0_keptOne 19 = .ok (.iload_n 1, 1) := by decide +kernel
theorem dX0_keptOne_20 : decode cX0_keptOne 20 = .ok (.iconst 2, 1) := by decide +kernel
theorem dX0_keptOne_21 : decode cX0_keptOne 21 = .ok (.if_icmp .ge 25, 3) := by decide +kernel
theorem dX0_keptOne_24 : decode cX0_keptOne 24 = .ok (.iload_n 1, 1) := by decide +kernel
theorem dX0_keptOne_25 : decode cX0_keptOne 25 = .ok (.ifCond .ne 13, 3) := by decide +kernel
theorem dX0_keptOne_28 : decode cX0_keptOne 28 = .ok (.aload_n 0, 1) := by decide +kernel
theorem dX0_keptOne_29 : decode cX0_keptOne 29 = .ok (.getfield 23, 3) := by decide +kernel
theorem dX0_keptOne_32 : decode cX0_keptOne 32 = .ok (.getfield 50, 3) := by decide +kernel
theorem dX0_keptOne_35 : decode cX0_keptOne 35 = .ok (.goto 10, 3) := by decide +kernel
theorem dX0_keptOne_38 : decode cX0_keptOne 38 = .ok (.aload_n 0, 1) := by decide +kernel
theorem dX0_keptOne_39 : decode cX0_keptOne 39 = .ok (.getfield 23, 3) := by decide +kernel
theorem dX0_keptOne_42 : decode cX0_keptOne 42 = .ok (.getfield 54, 3) := by decide +kernel
theorem dX0_keptOne_45 : decode cX0_keptOne 45 = .ok (.areturn, 1) := by decide +kernel
theorem dX0_keptOne_46 : decode cX0_keptOne 46 = .ok (.aload_n 0, 1) := by decide +kernel
theorem dX0_keptOne_47 : decode cX0_keptOne 47 = .ok (.getfield 57, 3) := by decide +kernel
theorem dX0_keptOne_50 : decode cX0_keptOne 50 = .ok (.iload_n 1, 1) := by decide +kernel
theorem dX0_keptOne_51 : decode cX0_keptOne 51 = .ok (.iconst 2, 1) := by decide +kernel
theorem dX0_keptOne_52 : decode cX0_keptOne 52 = .ok (.isub, 1) := by decide +kernel
theorem dX0_keptOne_53 : decode cX0_keptOne 53 = .ok (.ishr, 1) := by decide +kernel
theorem dX0_keptOne_54 : decode cX0_keptOne 54 = .ok (.iconst 1, 1) := by decide +kernel
theorem dX0_keptOne_55 : decode cX0_keptOne 55 = .ok (.iand, 1) := by decide +kernel
theorem dX0_keptOne_56 : decode cX0_keptOne 56 = .ok (.iconst 1, 1) := by decide +kernel
theorem dX0_keptOne_57 : decode cX0_keptOne 57 = .ok (.if_icmp .ne 17, 3) := by decide +kernel
theorem dX0_keptOne_60 : decode cX0_keptOne 60 = .ok (.aload_n 0, 1) := by decide +kernel
theorem dX0_keptOne_61 : decode cX0_keptOne 61 = .ok (.getfield 23, 3) := by decide +kernel
theorem dX0_keptOne_64 : decode cX0_keptOne 64 = .ok (.getfield 60, 3) := by decide +kernel
theorem dX0_keptOne_67 : decode cX0_keptOne 67 = .ok (.iload_n 1, 1) := by decide +kernel
theorem dX0_keptOne_68 : decode cX0_keptOne 68 = .ok (.iconst 2, 1) := by decide +kernel
theorem dX0_keptOne_69 : decode cX0_keptOne 69 = .ok (.isub, 1) := by decide +kernel
theorem dX0_keptOne_70 : decode cX0_keptOne 70 = .ok (.aaload, 1) := by decide +kernel
theorem dX0_keptOne_71 : decode cX0_keptOne 71 = .ok (.goto 4, 3) := by decide +kernel
theorem dX0_keptOne_74 : decode cX0_keptOne 74 = .ok (.aconst_null, 1) := by decide +kernel
theorem dX0_keptOne_75 : decode cX0_keptOne 75 = .ok (.areturn, 1) := by decide +kernel
theorem dX0_tellStep_0 : decode cX0_tellStep 0 = .ok (.iload_n 1, 1) := by decide +kernel
theorem dX0_tellStep_1 : decode cX0_tellStep 1 = .ok (.ifCond .lt 26, 3) := by decide +kernel
theorem dX0_tellStep_4 : decode cX0_tellStep 4 = .ok (.iload_n 1, 1) := by decide +kernel
theorem dX0_tellStep_5 : decode cX0_tellStep 5 = .ok (.aload_n 0, 1) := by decide +kernel
theorem dX0_tellStep_6 : decode cX0_tellStep 6 = .ok (.getfield 46, 3) := by decide +kernel
theorem dX0_tellStep_9 : decode cX0_tellStep 9 = .ok (.if_icmp .ge 18, 3) := by decide +kernel
theorem dX0_tellStep_12 : decode cX0_tellStep 12 = .ok (.iload_n 1, 1) := by decide +kernel
theorem dX0_tellStep_13 : decode cX0_tellStep 13 = .ok (.bipush 40, 2) := by decide +kernel
theorem dX0_tellStep_15 : decode cX0_tellStep 15 = .ok (.if_icmp .ge 12, 3) := by decide +kernel
theorem dX0_tellStep_18 : decode cX0_tellStep 18 = .ok (.iload_n 2, 1) := by decide +kernel
theorem dX0_tellStep_19 : decode cX0_tellStep 19 = .ok (.ifCond .lt 8, 3) := by decide +kernel
theorem dX0_tellStep_22 : decode cX0_tellStep 22 = .ok (.iload_n 2, 1) := by decide +kernel
theorem dX0_tellStep_23 : decode cX0_tellStep 23 = .ok (.iconst 5, 1) := by decide +kernel
theorem dX0_tellStep_24 : decode cX0_tellStep 24 = .ok (.if_icmp .lt 5, 3) := by decide +kernel
theorem dX0_tellStep_27 : decode cX0_tellStep 27 = .ok (.iconst (-1), 1) := by decide +kernel
theorem dX0_tellStep_28 : decode cX0_tellStep 28 = .ok (.ireturn, 1) := by decide +kernel
theorem dX0_tellStep_29 : decode cX0_tellStep 29 = .ok (.aload_n 0, 1) := by decide +kernel
theorem dX0_tellStep_30 : decode cX0_tellStep 30 = .ok (.getfield 19, 3) := by decide +kernel
theorem dX0_tellStep_33 : decode cX0_tellStep 33 = .ok (.iload_n 1, 1) := by decide +kernel
theorem dX0_tellStep_34 : decode cX0_tellStep 34 = .ok (.aaload, 1) := by decide +kernel
theorem dX0_tellStep_35 : decode cX0_tellStep 35 = .ok (.iload_n 2, 1) := by decide +kernel
theorem dX0_tellStep_36 : decode cX0_tellStep 36 = .ok (.iaload, 1) := by decide +kernel
theorem dX0_tellStep_37 : decode cX0_tellStep 37 = .ok (.ireturn, 1) := by decide +kernel
theorem dX0_tellWhole_0 : decode cX0_tellWhole 0 = .ok (.iload_n 1, 1) := by decide +kernel
theorem dX0_tellWhole_1 : decode cX0_tellWhole 1 = .ok (.ifCond .ne 8, 3) := by decide +kernel
theorem dX0_tellWhole_4 : decode cX0_tellWhole 4 = .ok (.aload_n 0, 1) := by decide +kernel
theorem dX0_tellWhole_5 : decode cX0_tellWhole 5 = .ok (.getfield 46, 3) := by decide +kernel
theorem dX0_tellWhole_8 : decode cX0_tellWhole 8 = .ok (.ireturn, 1) := by decide +kernel
theorem dX0_tellWhole_9 : decode cX0_tellWhole 9 = .ok (.iload_n 1, 1) := by decide +kernel
theorem dX0_tellWhole_10 : decode cX0_tellWhole 10 = .ok (.iconst 1, 1) := by decide +kernel
theorem dX0_tellWhole_11 : decode cX0_tellWhole 11 = .ok (.if_icmp .ne 8, 3) := by decide +kernel
theorem dX0_tellWhole_14 : decode cX0_tellWhole 14 = .ok (.aload_n 0, 1) := by decide +kernel
theorem dX0_tellWhole_15 : decode cX0_tellWhole 15 = .ok (.getfield 64, 3) := by decide +kernel
theorem dX0_tellWhole_18 : decode cX0_tellWhole 18 = .ok (.ireturn, 1) := by decide +kernel
theorem dX0_tellWhole_19 : decode cX0_tellWhole 19 = .ok (.iload_n 1, 1) := by decide +kernel
theorem dX0_tellWhole_20 : decode cX0_tellWhole 20 = .ok (.iconst 2, 1) := by decide +kernel
theorem dX0_tellWhole_21 : decode cX0_tellWhole 21 = .ok (.if_icmp .ne 7, 3) := by decide +kernel
theorem dX0_tellWhole_24 : decode cX0_tellWhole 24 = .ok (.iconst 1, 1) := by decide +kernel
theorem dX0_tellWhole_25 : decode cX0_tellWhole 25 = .ok (.goto 4, 3) := by decide +kernel
theorem dX0_tellWhole_28 : decode cX0_tellWhole 28 = .ok (.iconst (-1), 1) := by decide +kernel
theorem dX0_tellWhole_29 : decode cX0_tellWhole 29 = .ok (.ireturn, 1) := by decide +kernel
theorem dX0_begin_0 : decode cX0_begin 0 = .ok (.aload_n 0, 1) := by decide +kernel
theorem dX0_begin_1 : decode cX0_begin 1 = .ok (.iload_n 3, 1) := by decide +kernel
theorem dX0_begin_2 : decode cX0_begin 2 = .ok (.putfield 57, 3) := by decide +kernel
theorem dX0_begin_5 : decode cX0_begin 5 = .ok (.aload_n 0, 1) := by decide +kernel
theorem dX0_begin_6 : decode cX0_begin 6 = .ok (.iload_n 2, 1) := by decide +kernel
theorem dX0_begin_7 : decode cX0_begin 7 = .ok (.putfield 67, 3) := by decide +kernel
theorem dX0_begin_10 : decode cX0_begin 10 = .ok (.aload_n 0, 1) := by decide +kernel
theorem dX0_begin_11 : decode cX0_begin 11 = .ok (.iconst 0, 1) := by decide +kernel
theorem dX0_begin_12 : decode cX0_begin 12 = .ok (.putfield 46, 3) := by decide +kernel
theorem dX0_begin_15 : decode cX0_begin 15 = .ok (.aload_n 0, 1) := by decide +kernel
theorem dX0_begin_16 : decode cX0_begin 16 = .ok (.iconst 0, 1) := by decide +kernel
theorem dX0_begin_17 : decode cX0_begin 17 = .ok (.putfield 64, 3) := by decide +kernel
theorem dX0_begin_20 : decode cX0_begin 20 = .ok (.iconst 0, 1) := by decide +kernel
theorem dX0_begin_21 : decode cX0_begin 21 = .ok (.istore 5, 2) := by decide +kernel
theorem dX0_begin_23 : decode cX0_begin 23 = .ok (.iload 5, 2) := by decide +kernel
theorem dX0_begin_25 : decode cX0_begin 25 = .ok (.bipush 8, 2) := by decide +kernel
theorem dX0_begin_27 : decode cX0_begin 27 = .ok (.if_icmp .ge 76, 3) := by decide +kernel
theorem dX0_begin_30 : decode cX0_begin 30 = .ok (.iload 5, 2) := by decide +kernel
theorem dX0_begin_32 : decode cX0_begin 32 = .ok (.aload_n 1, 1) := by decide +kernel
theorem dX0_begin_33 : decode cX0_begin 33 = .ok (.arraylength, 1) := by decide +kernel
theorem dX0_begin_34 : decode cX0_begin 34 = .ok (.if_icmp .ge 69, 3) := by decide +kernel
theorem dX0_begin_37 : decode cX0_begin 37 = .ok (.iload_n 3, 1) := by decide +kernel
theorem dX0_begin_38 : decode cX0_begin 38 = .ok (.iload 5, 2) := by decide +kernel
theorem dX0_begin_40 : decode cX0_begin 40 = .ok (.ishr, 1) := by decide +kernel
theorem dX0_begin_41 : decode cX0_begin 41 = .ok (.iconst 1, 1) := by decide +kernel
theorem dX0_begin_42 : decode cX0_begin 42 = .ok (.iand, 1) := by decide +kernel
theorem dX0_begin_43 : decode cX0_begin 43 = .ok (.iconst 1, 1) := by decide +kernel
theorem dX0_begin_44 : decode cX0_begin 44 = .ok (.if_icmp .ne 53, 3) := by decide +kernel
theorem dX0_begin_47 : decode cX0_begin 47 = .ok (.aload_n 0, 1) := by decide +kernel
theorem dX0_begin_48 : decode cX0_begin 48 = .ok (.getfield 11, 3) := by decide +kernel
theorem dX0_begin_51 : decode cX0_begin 51 = .ok (.aload_n 0, 1) := by decide +kernel
theorem dX0_begin_52 : decode cX0_begin 52 = .ok (.getfield 64, 3) := by decide +kernel
theorem dX0_begin_55 : decode cX0_begin 55 = .ok (.aaload, 1) := by decide +kernel
theorem dX0_begin_56 : decode cX0_begin 56 = .ok (.aload_n 1, 1) := by decide +kernel
theorem dX0_begin_57 : decode cX0_begin 57 = .ok (.iload 5, 2) := by decide +kernel
theorem dX0_begin_59 : decode cX0_begin 59 = .ok (.aaload, 1) := by decide +kernel
theorem dX0_begin_60 : decode cX0_begin 60 = .ok (.invokevirtual 70, 3) := by decide +kernel
theorem dX0_begin_63 : decode cX0_begin 63 = .ok (.aload_n 0, 1) := by decide +kernel
theorem dX0_begin_64 : decode cX0_begin 64 = .ok (.getfield 11, 3) := by decide +kernel
theorem dX0_begin_67 : decode cX0_begin 67 = .ok (.aload_n 0, 1) := by decide +kernel
theorem dX0_begin_68 : decode cX0_begin 68 = .ok (.getfield 64, 3) := by decide +kernel
theorem dX0_begin_71 : decode cX0_begin 71 = .ok (.aaload, 1) := by decide +kernel
theorem dX0_begin_72 : decode cX0_begin 72 = .ok (.getfield 60, 3) := by decide +kernel
theorem dX0_begin_75 : decode cX0_begin 75 = .ok (.iload 5, 2) := by decide +kernel
theorem dX0_begin_77 : decode cX0_begin 77 = .ok (.aaload, 1) := by decide +kernel
theorem dX0_begin_78 : decode cX0_begin 78 = .ok (.aload 4, 2) := by decide +kernel
theorem dX0_begin_80 : decode cX0_begin 80 = .ok (.iconst 1, 1) := by decide +kernel
theorem dX0_begin_81 : decode cX0_begin 81 = .ok (.invokevirtual 73, 3) := by decide +kernel
theorem dX0_begin_84 : decode cX0_begin 84 = .ok (.invokevirtual 79, 3) := by decide +kernel
theorem dX0_begin_87 : decode cX0_begin 87 = .ok (.aload_n 0, 1) := by decide +kernel
theorem dX0_begin_88 : decode cX0_begin 88 = .ok (.dup, 1) := by decide +kernel
theorem dX0_begin_89 : decode cX0_begin 89 = .ok (.getfield 64, 3) := by decide +kernel
theorem dX0_begin_92 : decode cX0_begin 92 = .ok (.iconst 1, 1) := by decide +kernel
theorem dX0_begin_93 : decode cX0_begin 93 = .ok (.iadd, 1) := by decide +kernel
theorem dX0_begin_94 : decode cX0_begin 94 = .ok (.putfield 64, 3) := by decide +kernel
theorem dX0_begin_97 : decode cX0_begin 97 = .ok (.iinc 5 1, 3) := by decide +kernel
theorem dX0_begin_100 : decode cX0_begin 100 = .ok (.goto (-77), 3) := by decide +kernel
theorem dX0_begin_103 : decode cX0_begin 103 = .ok (.iload_n 2, 1) := by decide +kernel
theorem dX0_begin_104 : decode cX0_begin 104 = .ok (.ifCond .lt 30, 3) := by decide +kernel
theorem dX0_begin_107 : decode cX0_begin 107 = .ok (.iload_n 2, 1) := by decide +kernel
theorem dX0_begin_108 : decode cX0_begin 108 = .ok (.aload_n 1, 1) := by decide +kernel
theorem dX0_begin_109 : decode cX0_begin 109 = .ok (.arraylength, 1) := by decide +kernel
theorem dX0_begin_110 : decode cX0_begin 110 = .ok (.if_icmp .ge 24, 3) := by decide +kernel
theorem dX0_begin_113 : decode cX0_begin 113 = .ok (.aload_n 0, 1) := by decide +kernel
theorem dX0_begin_114 : decode cX0_begin 114 = .ok (.getfield 23, 3) := by decide +kernel
theorem dX0_begin_117 : decode cX0_begin 117 = .ok (.aload_n 1, 1) := by decide +kernel
theorem dX0_begin_118 : decode cX0_begin 118 = .ok (.iload_n 2, 1) := by decide +kernel
theorem dX0_begin_119 : decode cX0_begin 119 = .ok (.aaload, 1) := by decide +kernel
theorem dX0_begin_120 : decode cX0_begin 120 = .ok (.invokevirtual 70, 3) := by decide +kernel
theorem dX0_begin_123 : decode cX0_begin 123 = .ok (.aload_n 0, 1) := by decide +kernel
theorem dX0_begin_124 : decode cX0_begin 124 = .ok (.getfield 23, 3) := by decide +kernel
theorem dX0_begin_127 : decode cX0_begin 127 = .ok (.getfield 54, 3) := by decide +kernel
theorem dX0_begin_130 : decode cX0_begin 130 = .ok (.iconst 1, 1) := by decide +kernel
theorem dX0_begin_131 : decode cX0_begin 131 = .ok (.invokevirtual 79, 3) := by decide +kernel
theorem dX0_begin_134 : decode cX0_begin 134 = .ok (.return_, 1) := by decide +kernel
theorem dX0_bestDivisor_0 : decode cX0_bestDivisor 0 = .ok (.aload_n 0, 1) := by decide +kernel
theorem dX0_bestDivisor_1 : decode cX0_bestDivisor 1 = .ok (.getfield 23, 3) := by decide +kernel
theorem dX0_bestDivisor_4 : decode cX0_bestDivisor 4 = .ok (.getfield 50, 3) := by decide +kernel
theorem dX0_bestDivisor_7 : decode cX0_bestDivisor 7 = .ok (.getfield 85, 3) := by decide +kernel
theorem dX0_bestDivisor_10 : decode cX0_bestDivisor 10 = .ok (.ifCond .ne 5, 3) := by decide +kernel
theorem dX0_bestDivisor_13 : decode cX0_bestDivisor 13 = .ok (.iconst (-1), 1) := by decide +kernel
theorem dX0_bestDivisor_14 : decode cX0_bestDivisor 14 = .ok (.ireturn, 1) := by decide +kernel
theorem dX0_bestDivisor_15 : decode cX0_bestDivisor 15 = .ok (.iconst (-1), 1) := by decide +kernel
theorem dX0_bestDivisor_16 : decode cX0_bestDivisor 16 = .ok (.istore_n 1, 1) := by decide +kernel
theorem dX0_bestDivisor_17 : decode cX0_bestDivisor 17 = .ok (.iconst 0, 1) := by decide +kernel
theorem dX0_bestDivisor_18 : decode cX0_bestDivisor 18 = .ok (.istore_n 2, 1) := by decide +kernel
theorem dX0_bestDivisor_19 : decode cX0_bestDivisor 19 = .ok (.iconst 0, 1) := by decide +kernel
theorem dX0_bestDivisor_20 : decode cX0_bestDivisor 20 = .ok (.istore_n 3, 1) := by decide +kernel
theorem dX0_bestDivisor_21 : decode cX0_bestDivisor 21 = .ok (.iload_n 3, 1) := by decide +kernel
theorem dX0_bestDivisor_22 : decode cX0_bestDivisor 22 = .ok (.aload_n 0, 1) := by decide +kernel
theorem dX0_bestDivisor_23 : decode cX0_bestDivisor 23 = .ok (.getfield 64, 3) := by decide +kernel
theorem dX0_bestDivisor_26 : decode cX0_bestDivisor 26 = .ok (.if_icmp .ge 93, 3) := by decide +kernel
theorem dX0_bestDivisor_29 : decode cX0_bestDivisor 29 = .ok (.iload_n 3, 1) := by decide +kernel
theorem dX0_bestDivisor_30 : decode cX0_bestDivisor 30 = .ok (.bipush 20, 2) := by decide +kernel
theorem dX0_bestDivisor_32 : decode cX0_bestDivisor 32 = .ok (.if_icmp .ge 87, 3) := by decide +kernel
theorem dX0_bestDivisor_35 : decode cX0_bestDivisor 35 = .ok (.aload_n 0, 1) := by decide +kernel
theorem dX0_bestDivisor_36 : decode cX0_bestDivisor 36 = .ok (.getfield 11, 3) := by decide +kernel
theorem dX0_bestDivisor_39 : decode cX0_bestDivisor 39 = .ok (.iload_n 3, 1) := by decide +kernel
theorem dX0_bestDivisor_40 : decode cX0_bestDivisor 40 = .ok (.aaload, 1) := by decide +kernel
theorem dX0_bestDivisor_41 : decode cX0_bestDivisor 41 = .ok (.getfield 50, 3) := by decide +kernel
theorem dX0_bestDivisor_44 : decode cX0_bestDivisor 44 = .ok (.astore 4, 2) := by decide +kernel
theorem dX0_bestDivisor_46 : decode cX0_bestDivisor 46 = .ok (.aload 4, 2) := by decide +kernel
theorem dX0_bestDivisor_48 : decode cX0_bestDivisor 48 = .ok (.getfield 85, 3) := by decide +kernel
theorem dX0_bestDivisor_51 : decode cX0_bestDivisor 51 = .ok (.ifCond .le 32, 3) := by decide +kernel
theorem dX0_bestDivisor_54 : decode cX0_bestDivisor 54 = .ok (.aload 4, 2) := by decide +kernel
theorem dX0_bestDivisor_56 : decode cX0_bestDivisor 56 = .ok (.getfield 88, 3) := by decide +kernel
theorem dX0_bestDivisor_59 : decode cX0_bestDivisor 59 = .ok (.iconst 0, 1) := by decide +kernel
theorem dX0_bestDivisor_60 : decode cX0_bestDivisor 60 = .ok (.iaload, 1) := by decide +kernel
theorem dX0_bestDivisor_61 : decode cX0_bestDivisor 61 = .ok (.aload_n 0, 1) := by decide +kernel
theorem dX0_bestDivisor_62 : decode cX0_bestDivisor 62 = .ok (.getfield 23, 3) := by decide +kernel
theorem dX0_bestDivisor_65 : decode cX0_bestDivisor 65 = .ok (.getfield 50, 3) := by decide +kernel
theorem dX0_bestDivisor_68 : decode cX0_bestDivisor 68 = .ok (.getfield 88, 3) := by decide +kernel
theorem dX0_bestDivisor_71 : decode cX0_bestDivisor 71 = .ok (.iconst 0, 1) := by decide +kernel
theorem dX0_bestDivisor_72 : decode cX0_bestDivisor 72 = .ok (.iaload, 1) := by decide +kernel
theorem dX0_bestDivisor_73 : decode cX0_bestDivisor 73 = .ok (.invokestatic 92, 3) := by decide +kernel
theorem dX0_bestDivisor_76 : decode cX0_bestDivisor 76 = .ok (.ifCond .eq 7, 3) := by decide +kernel
theorem dX0_bestDivisor_79 : decode cX0_bestDivisor 79 = .ok (.iconst 1, 1) := by decide +kernel
theorem dX0_bestDivisor_80 : decode cX0_bestDivisor 80 = .ok (.goto 4, 3) := by decide +kernel
theorem dX0_bestDivisor_83 : decode cX0_bestDivisor 83 = .ok (.iconst 0, 1) := by decide +kernel
theorem dX0_bestDivisor_84 : decode cX0_bestDivisor 84 = .ok (.istore 5, 2) := by decide +kernel
theorem dX0_bestDivisor_86 : decode cX0_bestDivisor 86 = .ok (.iload 5, 2) := by decide +kernel
theorem dX0_bestDivisor_88 : decode cX0_bestDivisor 88 = .ok (.ifCond .eq 25, 3) := by decide +kernel
theorem dX0_bestDivisor_91 : decode cX0_bestDivisor 91 = .ok (.iload_n 1, 1) := by decide +kernel
theorem dX0_bestDivisor_92 : decode cX0_bestDivisor 92 = .ok (.iconst (-1), 1) := by decide +kernel
theorem dX0_bestDivisor_93 : decode cX0_bestDivisor 93 = .ok (.if_icmp .eq 12, 3) := by decide +kernel
theorem dX0_bestDivisor_96 : decode cX0_bestDivisor 96 = .ok (.aload 4, 2) := by decide +kernel
theorem dX0_bestDivisor_98 : decode cX0_bestDivisor 98 = .ok (.invokevirtual 98, 3) := by decide +kernel
theorem dX0_bestDivisor_101 : decode cX0_bestDivisor 101 = .ok (.iload_n 2, 1) := by decide +kernel
theorem dX0_bestDivisor_102 : decode cX0_bestDivisor 102 = .ok (.if_icmp .ge 11, 3) := by decide +kernel
theorem dX0_bestDivisor_105 : decode cX0_bestDivisor 105 = .ok (.iload_n 3, 1) := by decide +kernel
theorem dX0_bestDivisor_106 : decode cX0_bestDivisor 106 = .ok (.istore_n 1, 1) := by decide +kernel
theorem dX0_bestDivisor_107 : decode cX0_bestDivisor 107 = .ok (.aload 4, 2) := by decide +kernel
theorem dX0_bestDivisor_109 : decode cX0_bestDivisor 109 = .ok (.invokevirtual 98, 3) := by decide +kernel
theorem dX0_bestDivisor_112 : decode cX0_bestDivisor 112 = .ok (.istore_n 2, 1) := by decide +kernel
theorem dX0_bestDivisor_113 : decode cX0_bestDivisor 113 = .ok (.iinc 3 1, 3) := by decide +kernel
theorem dX0_bestDivisor_116 : decode cX0_bestDivisor 116 = .ok (.goto (-95), 3) := by decide +kernel
theorem dX0_bestDivisor_119 : decode cX0_bestDivisor 119 = .ok (.iload_n 1, 1) := by decide +kernel
theorem dX0_bestDivisor_120 : decode cX0_bestDivisor 120 = .ok (.ireturn, 1) := by decide +kernel
theorem dX0_stepBy_0 : decode cX0_stepBy 0 = .ok (.iload_n 1, 1) := by decide +kernel
theorem dX0_stepBy_1 : decode cX0_stepBy 1 = .ok (.ifCond .lt 20, 3) := by decide +kernel
theorem dX0_stepBy_4 : decode cX0_stepBy 4 = .ok (.iload_n 1, 1) := by decide +kernel
theorem dX0_stepBy_5 : decode cX0_stepBy 5 = .ok (.aload_n 0, 1) := by decide +kernel
theorem dX0_stepBy_6 : decode cX0_stepBy 6 = .ok (.getfield 64, 3) := by decide +kernel
theorem dX0_stepBy_9 : decode cX0_stepBy 9 = .ok (.if_icmp .ge 12, 3) := by decide +kernel
theorem dX0_stepBy_12 : decode cX0_stepBy 12 = .ok (.aload_n 0, 1) := by decide +kernel
theorem dX0_stepBy_13 : decode cX0_stepBy 13 = .ok (.getfield 46, 3) := by decide +kernel
theorem dX0_stepBy_16 : decode cX0_stepBy 16 = .ok (.bipush 40, 2) := by decide +kernel
theorem dX0_stepBy_18 : decode cX0_stepBy 18 = .ok (.if_icmp .lt 5, 3) := by decide +kernel
theorem dX0_stepBy_21 : decode cX0_stepBy 21 = .ok (.iconst 0, 1) := by decide +kernel
theorem dX0_stepBy_22 : decode cX0_stepBy 22 = .ok (.ireturn, 1) := by decide +kernel
theorem dX0_stepBy_23 : decode cX0_stepBy 23 = .ok (.aload_n 0, 1) := by decide +kernel
theorem dX0_stepBy_24 : decode cX0_stepBy 24 = .ok (.getfield 11, 3) := by decide +kernel
theorem dX0_stepBy_27 : decode cX0_stepBy 27 = .ok (.iload_n 1, 1) := by decide +kernel
theorem dX0_stepBy_28 : decode cX0_stepBy 28 = .ok (.aaload, 1) := by decide +kernel
theorem dX0_stepBy_29 : decode cX0_stepBy 29 = .ok (.astore_n 3, 1) := by decide +kernel
theorem dX0_stepBy_30 : decode cX0_stepBy 30 = .ok (.aload_n 3, 1) := by decide +kernel
theorem dX0_stepBy_31 : decode cX0_stepBy 31 = .ok (.getfield 50, 3) := by decide +kernel
theorem dX0_stepBy_34 : decode cX0_stepBy 34 = .ok (.invokevirtual 98, 3) := by decide +kernel
theorem dX0_stepBy_37 : decode cX0_stepBy 37 = .ok (.aload_n 0, 1) := by decide +kernel
theorem dX0_stepBy_38 : decode cX0_stepBy 38 = .ok (.getfield 23, 3) := by decide +kernel
theorem dX0_stepBy_41 : decode cX0_stepBy 41 = .ok (.getfield 50, 3) := by decide +kernel
theorem dX0_stepBy_44 : decode cX0_stepBy 44 = .ok (.invokevirtual 98, 3) := by decide +kernel
theorem dX0_stepBy_47 : decode cX0_stepBy 47 = .ok (.if_icmp .le 7, 3) := by decide +kernel
theorem dX0_stepBy_50 : decode cX0_stepBy 50 = .ok (.iconst 1, 1) := by decide +kernel
theorem dX0_stepBy_51 : decode cX0_stepBy 51 = .ok (.goto 4, 3) := by decide +kernel
theorem dX0_stepBy_54 : decode cX0_stepBy 54 = .ok (.iconst 0, 1) := by decide +kernel
theorem dX0_stepBy_55 : decode cX0_stepBy 55 = .ok (.istore 4, 2) := by decide +kernel
theorem dX0_stepBy_57 : decode cX0_stepBy 57 = .ok (.iload 4, 2) := by decide +kernel
theorem dX0_stepBy_59 : decode cX0_stepBy 59 = .ok (.ifCond .eq 14, 3) := by decide +kernel
theorem dX0_stepBy_62 : decode cX0_stepBy 62 = .ok (.aload_n 0, 1) := by decide +kernel
theorem dX0_stepBy_63 : decode cX0_stepBy 63 = .ok (.getfield 64, 3) := by decide +kernel
theorem dX0_stepBy_66 : decode cX0_stepBy 66 = .ok (.bipush 20, 2) := by decide +kernel
theorem dX0_stepBy_68 : decode cX0_stepBy 68 = .ok (.if_icmp .lt 5, 3) := by decide +kernel
theorem dX0_stepBy_71 : decode cX0_stepBy 71 = .ok (.iconst 0, 1) := by decide +kernel
theorem dX0_stepBy_72 : decode cX0_stepBy 72 = .ok (.ireturn, 1) := by decide +kernel
theorem dX0_stepBy_73 : decode cX0_stepBy 73 = .ok (.aload_n 0, 1) := by decide +kernel
theorem dX0_stepBy_74 : decode cX0_stepBy 74 = .ok (.getfield 19, 3) := by decide +kernel
theorem dX0_stepBy_77 : decode cX0_stepBy 77 = .ok (.aload_n 0, 1) := by decide +kernel
theorem dX0_stepBy_78 : decode cX0_stepBy 78 = .ok (.getfield 46, 3) := by decide +kernel
theorem dX0_stepBy_81 : decode cX0_stepBy 81 = .ok (.aaload, 1) := by decide +kernel
theorem dX0_stepBy_82 : decode cX0_stepBy 82 = .ok (.iconst 0, 1) := by decide +kernel
theorem dX0_stepBy_83 : decode cX0_stepBy 83 = .ok (.iload_n 1, 1) := by decide +kernel
theorem dX0_stepBy_84 : decode cX0_stepBy 84 = .ok (.iastore, 1) := by decide +kernel
theorem dX0_stepBy_85 : decode cX0_stepBy 85 = .ok (.aload_n 0, 1) := by decide +kernel
theorem dX0_stepBy_86 : decode cX0_stepBy 86 = .ok (.getfield 19, 3) := by decide +kernel
theorem dX0_stepBy_89 : decode cX0_stepBy 89 = .ok (.aload_n 0, 1) := by decide +kernel
theorem dX0_stepBy_90 : decode cX0_stepBy 90 = .ok (.getfield 46, 3) := by decide +kernel
theorem dX0_stepBy_93 : decode cX0_stepBy 93 = .ok (.aaload, 1) := by decide +kernel
theorem dX0_stepBy_94 : decode cX0_stepBy 94 = .ok (.iconst 1, 1) := by decide +kernel
theorem dX0_stepBy_95 : decode cX0_stepBy 95 = .ok (.aload_n 3, 1) := by decide +kernel
theorem dX0_stepBy_96 : decode cX0_stepBy 96 = .ok (.getfield 50, 3) := by decide +kernel
theorem dX0_stepBy_99 : decode cX0_stepBy 99 = .ok (.invokevirtual 98, 3) := by decide +kernel
theorem dX0_stepBy_102 : decode cX0_stepBy 102 = .ok (.iastore, 1) := by decide +kernel
theorem dX0_stepBy_103 : decode cX0_stepBy 103 = .ok (.aload_n 0, 1) := by decide +kernel
theorem dX0_stepBy_104 : decode cX0_stepBy 104 = .ok (.getfield 19, 3) := by decide +kernel
theorem dX0_stepBy_107 : decode cX0_stepBy 107 = .ok (.aload_n 0, 1) := by decide +kernel
theorem dX0_stepBy_108 : decode cX0_stepBy 108 = .ok (.getfield 46, 3) := by decide +kernel
theorem dX0_stepBy_111 : decode cX0_stepBy 111 = .ok (.aaload, 1) := by decide +kernel
theorem dX0_stepBy_112 : decode cX0_stepBy 112 = .ok (.iconst 2, 1) := by decide +kernel
theorem dX0_stepBy_113 : decode cX0_stepBy 113 = .ok (.aload_n 0, 1) := by decide +kernel
theorem dX0_stepBy_114 : decode cX0_stepBy 114 = .ok (.getfield 23, 3) := by decide +kernel
theorem dX0_stepBy_117 : decode cX0_stepBy 117 = .ok (.getfield 50, 3) := by decide +kernel
theorem dX0_stepBy_120 : decode cX0_stepBy 120 = .ok (.invokevirtual 98, 3) := by decide +kernel
theorem dX0_stepBy_123 : decode cX0_stepBy 123 = .ok (.iastore, 1) := by decide +kernel
theorem dX0_stepBy_124 : decode cX0_stepBy 124 = .ok (.aload_n 0, 1) := by decide +kernel
theorem dX0_stepBy_125 : decode cX0_stepBy 125 = .ok (.getfield 19, 3) := by decide +kernel
theorem dX0_stepBy_128 : decode cX0_stepBy 128 = .ok (.aload_n 0, 1) := by decide +kernel
theorem dX0_stepBy_129 : decode cX0_stepBy 129 = .ok (.getfield 46, 3) := by decide +kernel
theorem dX0_stepBy_132 : decode cX0_stepBy 132 = .ok (.aaload, 1) := by decide +kernel
theorem dX0_stepBy_133 : decode cX0_stepBy 133 = .ok (.iconst 3, 1) := by decide +kernel
theorem dX0_stepBy_134 : decode cX0_stepBy 134 = .ok (.iload 4, 2) := by decide +kernel
theorem dX0_stepBy_136 : decode cX0_stepBy 136 = .ok (.ifCond .eq 7, 3) := by decide +kernel
theorem dX0_stepBy_139 : decode cX0_stepBy 139 = .ok (.iconst 1, 1) := by decide +kernel
theorem dX0_stepBy_140 : decode cX0_stepBy 140 = .ok (.goto 4, 3) := by decide +kernel
theorem dX0_stepBy_143 : decode cX0_stepBy 143 = .ok (.iconst 0, 1) := by decide +kernel
theorem dX0_stepBy_144 : decode cX0_stepBy 144 = .ok (.iastore, 1) := by decide +kernel
theorem dX0_stepBy_145 : decode cX0_stepBy 145 = .ok (.aload_n 0, 1) := by decide +kernel
theorem dX0_stepBy_146 : decode cX0_stepBy 146 = .ok (.getfield 19, 3) := by decide +kernel
theorem dX0_stepBy_149 : decode cX0_stepBy 149 = .ok (.aload_n 0, 1) := by decide +kernel
theorem dX0_stepBy_150 : decode cX0_stepBy 150 = .ok (.getfield 46, 3) := by decide +kernel
theorem dX0_stepBy_153 : decode cX0_stepBy 153 = .ok (.aaload, 1) := by decide +kernel
theorem dX0_stepBy_154 : decode cX0_stepBy 154 = .ok (.iconst 4, 1) := by decide +kernel
theorem dX0_stepBy_155 : decode cX0_stepBy 155 = .ok (.aload_n 0, 1) := by decide +kernel
theorem dX0_stepBy_156 : decode cX0_stepBy 156 = .ok (.getfield 23, 3) := by decide +kernel
theorem dX0_stepBy_159 : decode cX0_stepBy 159 = .ok (.getfield 50, 3) := by decide +kernel
theorem dX0_stepBy_162 : decode cX0_stepBy 162 = .ok (.invokevirtual 101, 3) := by decide +kernel
theorem dX0_stepBy_165 : decode cX0_stepBy 165 = .ok (.iastore, 1) := by decide +kernel
theorem dX0_stepBy_166 : decode cX0_stepBy 166 = .ok (.aload_n 0, 1) := by decide +kernel
theorem dX0_stepBy_167 : decode cX0_stepBy 167 = .ok (.dup, 1) := by decide +kernel
theorem dX0_stepBy_168 : decode cX0_stepBy 168 = .ok (.getfield 46, 3) := by decide +kernel
theorem dX0_stepBy_171 : decode cX0_stepBy 171 = .ok (.iconst 1, 1) := by decide +kernel
theorem dX0_stepBy_172 : decode cX0_stepBy 172 = .ok (.iadd, 1) := by decide +kernel
theorem dX0_stepBy_173 : decode cX0_stepBy 173 = .ok (.putfield 46, 3) := by decide +kernel
theorem dX0_stepBy_176 : decode cX0_stepBy 176 = .ok (.iload 4, 2) := by decide +kernel
theorem dX0_stepBy_178 : decode cX0_stepBy 178 = .ok (.ifCond .eq 29, 3) := by decide +kernel
theorem dX0_stepBy_181 : decode cX0_stepBy 181 = .ok (.aload_n 0, 1) := by decide +kernel
theorem dX0_stepBy_182 : decode cX0_stepBy 182 = .ok (.getfield 11, 3) := by decide +kernel
theorem dX0_stepBy_185 : decode cX0_stepBy 185 = .ok (.aload_n 0, 1) := by decide +kernel
theorem dX0_stepBy_186 : decode cX0_stepBy 186 = .ok (.getfield 64, 3) := by decide +kernel
theorem dX0_stepBy_189 : decode cX0_stepBy 189 = .ok (.aaload, 1) := by decide +kernel
theorem dX0_stepBy_190 : decode cX0_stepBy 190 = .ok (.aload_n 0, 1) := by decide +kernel
theorem dX0_stepBy_191 : decode cX0_stepBy 191 = .ok (.getfield 23, 3) := by decide +kernel
theorem dX0_stepBy_194 : decode cX0_stepBy 194 = .ok (.invokevirtual 104, 3) := by decide +kernel
theorem dX0_stepBy_197 : decode cX0_stepBy 197 = .ok (.aload_n 0, 1) := by decide +kernel
theorem dX0_stepBy_198 : decode cX0_stepBy 198 = .ok (.dup, 1) := by decide +kernel
theorem dX0_stepBy_199 : decode cX0_stepBy 199 = .ok (.getfield 64, 3) := by decide +kernel
theorem dX0_stepBy_202 : decode cX0_stepBy 202 = .ok (.iconst 1, 1) := by decide +kernel
theorem dX0_stepBy_203 : decode cX0_stepBy 203 = .ok (.iadd, 1) := by decide +kernel
theorem dX0_stepBy_204 : decode cX0_stepBy 204 = .ok (.putfield 64, 3) := by decide +kernel
theorem dX0_stepBy_207 : decode cX0_stepBy 207 = .ok (.aload_n 0, 1) := by decide +kernel
theorem dX0_stepBy_208 : decode cX0_stepBy 208 = .ok (.aload_n 3, 1) := by decide +kernel
theorem dX0_stepBy_209 : decode cX0_stepBy 209 = .ok (.aload_n 2, 1) := by decide +kernel
theorem dX0_stepBy_210 : decode cX0_stepBy 210 = .ok (.invokevirtual 108, 3) := by decide +kernel
theorem dX0_stepBy_213 : decode cX0_stepBy 213 = .ok (.ireturn, 1) := by decide +kernel
theorem dX0_subtract_0 : decode cX0_subtract 0 = .ok (.aload_n 0, 1) := by decide +kernel
theorem dX0_subtract_1 : decode cX0_subtract 1 = .ok (.getfield 23, 3) := by decide +kernel
theorem dX0_subtract_4 : decode cX0_subtract 4 = .ok (.getfield 50, 3) := by decide +kernel
theorem dX0_subtract_7 : decode cX0_subtract 7 = .ok (.getfield 85, 3) := by decide +kernel
theorem dX0_subtract_10 : decode cX0_subtract 10 = .ok (.ifCond .eq 13, 3) := by decide +kernel
theorem dX0_subtract_13 : decode cX0_subtract 13 = .ok (.aload_n 1, 1) := by decide +kernel
theorem dX0_subtract_14 : decode cX0_subtract 14 = .ok (.getfield 50, 3) := by decide +kernel
theorem dX0_subtract_17 : decode cX0_subtract 17 = .ok (.getfield 85, 3) := by decide +kernel
theorem dX0_subtract_20 : decode cX0_subtract 20 = .ok (.ifCond .ne 5, 3) := by decide +kernel
theorem dX0_subtract_23 : decode cX0_subtract 23 = .ok (.iconst 0, 1) := by decide +kernel
theorem dX0_subtract_24 : decode cX0_subtract 24 = .ok (.ireturn, 1) := by decide +kernel
theorem dX0_subtract_25 : decode cX0_subtract 25 = .ok (.aload_n 2, 1) := by decide +kernel
theorem dX0_subtract_26 : decode cX0_subtract 26 = .ok (.aload_n 0, 1) := by decide +kernel
theorem dX0_subtract_27 : decode cX0_subtract 27 = .ok (.getfield 23, 3) := by decide +kernel
theorem dX0_subtract_30 : decode cX0_subtract 30 = .ok (.getfield 50, 3) := by decide +kernel
theorem dX0_subtract_33 : decode cX0_subtract 33 = .ok (.getfield 112, 3) := by decide +kernel
theorem dX0_subtract_36 : decode cX0_subtract 36 = .ok (.iconst 0, 1) := by decide +kernel
theorem dX0_subtract_37 : decode cX0_subtract 37 = .ok (.iaload, 1) := by decide +kernel
theorem dX0_subtract_38 : decode cX0_subtract 38 = .ok (.aload_n 2, 1) := by decide +kernel
theorem dX0_subtract_39 : decode cX0_subtract 39 = .ok (.aload_n 1, 1) := by decide +kernel
theorem dX0_subtract_40 : decode cX0_subtract 40 = .ok (.getfield 50, 3) := by decide +kernel
theorem dX0_subtract_43 : decode cX0_subtract 43 = .ok (.getfield 112, 3) := by decide +kernel
theorem dX0_subtract_46 : decode cX0_subtract 46 = .ok (.iconst 0, 1) := by decide +kernel
theorem dX0_subtract_47 : decode cX0_subtract 47 = .ok (.iaload, 1) := by decide +kernel
theorem dX0_subtract_48 : decode cX0_subtract 48 = .ok (.invokevirtual 115, 3) := by decide +kernel
theorem dX0_subtract_51 : decode cX0_subtract 51 = .ok (.invokevirtual 118, 3) := by decide +kernel
theorem dX0_subtract_54 : decode cX0_subtract 54 = .ok (.istore_n 3, 1) := by decide +kernel
theorem dX0_subtract_55 : decode cX0_subtract 55 = .ok (.aload_n 0, 1) := by decide +kernel
theorem dX0_subtract_56 : decode cX0_subtract 56 = .ok (.getfield 23, 3) := by decide +kernel
theorem dX0_subtract_59 : decode cX0_subtract 59 = .ok (.getfield 50, 3) := by decide +kernel
theorem dX0_subtract_62 : decode cX0_subtract 62 = .ok (.getfield 88, 3) := by decide +kernel
theorem dX0_subtract_65 : decode cX0_subtract 65 = .ok (.iconst 0, 1) := by decide +kernel
theorem dX0_subtract_66 : decode cX0_subtract 66 = .ok (.iaload, 1) := by decide +kernel
theorem dX0_subtract_67 : decode cX0_subtract 67 = .ok (.aload_n 1, 1) := by decide +kernel
theorem dX0_subtract_68 : decode cX0_subtract 68 = .ok (.getfield 50, 3) := by decide +kernel
theorem dX0_subtract_71 : decode cX0_subtract 71 = .ok (.getfield 88, 3) := by decide +kernel
theorem dX0_subtract_74 : decode cX0_subtract 74 = .ok (.iconst 0, 1) := by decide +kernel
theorem dX0_subtract_75 : decode cX0_subtract 75 = .ok (.iaload, 1) := by decide +kernel
theorem dX0_subtract_76 : decode cX0_subtract 76 = .ok (.invokestatic 122, 3) := by decide +kernel
theorem dX0_subtract_79 : decode cX0_subtract 79 = .ok (.istore 4, 2) := by decide +kernel
theorem dX0_subtract_81 : decode cX0_subtract 81 = .ok (.aload_n 0, 1) := by decide +kernel
theorem dX0_subtract_82 : decode cX0_subtract 82 = .ok (.getfield 27, 3) := by decide +kernel
theorem dX0_subtract_85 : decode cX0_subtract 85 = .ok (.aload_n 0, 1) := by decide +kernel
theorem dX0_subtract_86 : decode cX0_subtract 86 = .ok (.getfield 23, 3) := by decide +kernel
theorem dX0_subtract_89 : decode cX0_subtract 89 = .ok (.aload_n 2, 1) := by decide +kernel
theorem dX0_subtract_90 : decode cX0_subtract 90 = .ok (.iload_n 3, 1) := by decide +kernel
theorem dX0_subtract_91 : decode cX0_subtract 91 = .ok (.invokevirtual 73, 3) := by decide +kernel
theorem dX0_subtract_94 : decode cX0_subtract 94 = .ok (.iload 4, 2) := by decide +kernel
theorem dX0_subtract_96 : decode cX0_subtract 96 = .ok (.aload_n 1, 1) := by decide +kernel
theorem dX0_subtract_97 : decode cX0_subtract 97 = .ok (.aload_n 2, 1) := by decide +kernel
theorem dX0_subtract_98 : decode cX0_subtract 98 = .ok (.invokevirtual 125, 3) := by decide +kernel
theorem dX0_subtract_101 : decode cX0_subtract 101 = .ok (.istore 5, 2) := by decide +kernel
theorem dX0_subtract_103 : decode cX0_subtract 103 = .ok (.aload_n 0, 1) := by decide +kernel
theorem dX0_subtract_104 : decode cX0_subtract 104 = .ok (.getfield 23, 3) := by decide +kernel
theorem dX0_subtract_107 : decode cX0_subtract 107 = .ok (.astore 6, 2) := by decide +kernel
theorem dX0_subtract_109 : decode cX0_subtract 109 = .ok (.aload_n 0, 1) := by decide +kernel
theorem dX0_subtract_110 : decode cX0_subtract 110 = .ok (.aload_n 0, 1) := by decide +kernel
theorem dX0_subtract_111 : decode cX0_subtract 111 = .ok (.getfield 27, 3) := by decide +kernel
theorem dX0_subtract_114 : decode cX0_subtract 114 = .ok (.putfield 23, 3) := by decide +kernel
theorem dX0_subtract_117 : decode cX0_subtract 117 = .ok (.aload_n 0, 1) := by decide +kernel
theorem dX0_subtract_118 : decode cX0_subtract 118 = .ok (.aload 6, 2) := by decide +kernel
theorem dX0_subtract_120 : decode cX0_subtract 120 = .ok (.putfield 27, 3) := by decide +kernel
theorem dX0_subtract_123 : decode cX0_subtract 123 = .ok (.iload 5, 2) := by decide +kernel
theorem dX0_subtract_125 : decode cX0_subtract 125 = .ok (.ireturn, 1) := by decide +kernel
end
section
theorem dX1_init_0 : decode cX1_init 0 = .ok (.aload_n 0, 1) := by decide +kernel
theorem dX1_init_1 : decode cX1_init 1 = .ok (.invokespecial 3, 3) := by decide +kernel
theorem dX1_init_4 : decode cX1_init 4 = .ok (.aload_n 0, 1) := by decide +kernel
theorem dX1_init_5 : decode cX1_init 5 = .ok (.new 9, 3) := by decide +kernel
theorem dX1_init_8 : decode cX1_init 8 = .ok (.dup, 1) := by decide +kernel
theorem dX1_init_9 : decode cX1_init 9 = .ok (.bipush 60, 2) := by decide +kernel
theorem dX1_init_11 : decode cX1_init 11 = .ok (.invokespecial 11, 3) := by decide +kernel
theorem dX1_init_14 : decode cX1_init 14 = .ok (.putfield 14, 3) := by decide +kernel
theorem dX1_init_17 : decode cX1_init 17 = .ok (.aload_n 0, 1) := by decide +kernel
theorem dX1_init_18 : decode cX1_init 18 = .ok (.new 9, 3) := by decide +kernel
theorem dX1_init_21 : decode cX1_init 21 = .ok (.dup, 1) := by decide +kernel
theorem dX1_init_22 : decode cX1_init 22 = .ok (.bipush 60, 2) := by decide +kernel
theorem dX1_init_24 : decode cX1_init 24 = .ok (.invokespecial 11, 3) := by decide +kernel
theorem dX1_init_27 : decode cX1_init 27 = .ok (.putfield 20, 3) := by decide +kernel
theorem dX1_init_30 : decode cX1_init 30 = .ok (.aload_n 0, 1) := by decide +kernel
theorem dX1_init_31 : decode cX1_init 31 = .ok (.bipush 8, 2) := by decide +kernel
theorem dX1_init_33 : decode cX1_init 33 = .ok (.invokestatic 23, 3) := by decide +kernel
theorem dX1_init_36 : decode cX1_init 36 = .ok (.putfield 27, 3) := by decide +kernel
theorem dX1_init_39 : decode cX1_init 39 = .ok (.return_, 1) := by decide +kernel
theorem dX1_begin_0 : decode cX1_begin 0 = .ok (.aload_n 0, 1) := by decide +kernel
theorem dX1_begin_1 : decode cX1_begin 1 = .ok (.getfield 14, 3) := by decide +kernel
theorem dX1_begin_4 : decode cX1_begin 4 = .ok (.aload_n 1, 1) := by decide +kernel
theorem dX1_begin_5 : decode cX1_begin 5 = .ok (.invokevirtual 31, 3) := by decide +kernel
theorem dX1_begin_8 : decode cX1_begin 8 = .ok (.aload_n 0, 1) := by decide +kernel
theorem dX1_begin_9 : decode cX1_begin 9 = .ok (.getfield 20, 3) := by decide +kernel
theorem dX1_begin_12 : decode cX1_begin 12 = .ok (.invokevirtual 35, 3) := by decide +kernel
theorem dX1_begin_15 : decode cX1_begin 15 = .ok (.aload_n 0, 1) := by decide +kernel
theorem dX1_begin_16 : decode cX1_begin 16 = .ok (.getfield 27, 3) := by decide +kernel
theorem dX1_begin_19 : decode cX1_begin 19 = .ok (.astore_n 2, 1) := by decide +kernel
theorem dX1_begin_20 : decode cX1_begin 20 = .ok (.aload_n 2, 1) := by decide +kernel
theorem dX1_begin_21 : decode cX1_begin 21 = .ok (.arraylength, 1) := by decide +kernel
theorem dX1_begin_22 : decode cX1_begin 22 = .ok (.istore_n 3, 1) := by decide +kernel
theorem dX1_begin_23 : decode cX1_begin 23 = .ok (.iconst 0, 1) := by decide +kernel
theorem dX1_begin_24 : decode cX1_begin 24 = .ok (.istore 4, 2) := by decide +kernel
theorem dX1_begin_26 : decode cX1_begin 26 = .ok (.iload 4, 2) := by decide +kernel
theorem dX1_begin_28 : decode cX1_begin 28 = .ok (.iload_n 3, 1) := by decide +kernel
theorem dX1_begin_29 : decode cX1_begin 29 = .ok (.if_icmp .ge 20, 3) := by decide +kernel
theorem dX1_begin_32 : decode cX1_begin 32 = .ok (.aload_n 2, 1) := by decide +kernel
theorem dX1_begin_33 : decode cX1_begin 33 = .ok (.iload 4, 2) := by decide +kernel
theorem dX1_begin_35 : decode cX1_begin 35 = .ok (.aaload, 1) := by decide +kernel
theorem dX1_begin_36 : decode cX1_begin 36 = .ok (.astore 5, 2) := by decide +kernel
theorem dX1_begin_38 : decode cX1_begin 38 = .ok (.aload 5, 2) := by decide +kernel
theorem dX1_begin_40 : decode cX1_begin 40 = .ok (.invokevirtual 35, 3) := by decide +kernel
theorem dX1_begin_43 : decode cX1_begin 43 = .ok (.iinc 4 1, 3) := by decide +kernel
theorem dX1_begin_46 : decode cX1_begin 46 = .ok (.goto (-20), 3) := by decide +kernel
theorem dX1_begin_49 : decode cX1_begin 49 = .ok (.return_, 1) := by decide +kernel
theorem dX1_become_0 : decode cX1_become 0 = .ok (.aload_n 0, 1) := by decide +kernel
theorem dX1_become_1 : decode cX1_become 1 = .ok (.getfield 14, 3) := by decide +kernel
theorem dX1_become_4 : decode cX1_become 4 = .ok (.aload_n 1, 1) := by decide +kernel
theorem dX1_become_5 : decode cX1_become 5 = .ok (.getfield 14, 3) := by decide +kernel
theorem dX1_become_8 : decode cX1_become 8 = .ok (.invokevirtual 31, 3) := by decide +kernel
theorem dX1_become_11 : decode cX1_become 11 = .ok (.aload_n 0, 1) := by decide +kernel
theorem dX1_become_12 : decode cX1_become 12 = .ok (.getfield 20, 3) := by decide +kernel
theorem dX1_become_15 : decode cX1_become 15 = .ok (.aload_n 1, 1) := by decide +kernel
theorem dX1_become_16 : decode cX1_become 16 = .ok (.getfield 20, 3) := by decide +kernel
theorem dX1_become_19 : decode cX1_become 19 = .ok (.invokevirtual 31, 3) := by decide +kernel
theorem dX1_become_22 : decode cX1_become 22 = .ok (.iconst 0, 1) := by decide +kernel
theorem dX1_become_23 : decode cX1_become 23 = .ok (.istore_n 2, 1) := by decide +kernel
theorem dX1_become_24 : decode cX1_become 24 = .ok (.iload_n 2, 1) := by decide +kernel
theorem dX1_become_25 : decode cX1_become 25 = .ok (.bipush 8, 2) := by decide +kernel
theorem dX1_become_27 : decode cX1_become 27 = .ok (.if_icmp .ge 24, 3) := by decide +kernel
theorem dX1_become_30 : decode cX1_become 30 = .ok (.aload_n 0, 1) := by decide +kernel
theorem dX1_become_31 : decode cX1_become 31 = .ok (.getfield 27, 3) := by decide +kernel
theorem dX1_become_34 : decode cX1_become 34 = .ok (.iload_n 2, 1) := by decide +kernel
theorem dX1_become_35 : decode cX1_become 35 = .ok (.aaload, 1) := by decide +kernel
theorem dX1_become_36 : decode cX1_become 36 = .ok (.aload_n 1, 1) := by decide +kernel
theorem dX1_become_37 : decode cX1_become 37 = .ok (.getfield 27, 3) := by decide +kernel
theorem dX1_become_40 : decode cX1_become 40 = .ok (.iload_n 2, 1) := by decide +kernel
theorem dX1_become_41 : decode cX1_become 41 = .ok (.aaload, 1) := by decide +kernel
theorem dX1_become_42 : decode cX1_become 42 = .ok (.invokevirtual 31, 3) := by decide +kernel
theorem dX1_become_45 : decode cX1_become 45 = .ok (.iinc 2 1, 3) := by decide +kernel
theorem dX1_become_48 : decode cX1_become 48 = .ok (.goto (-24), 3) := by decide +kernel
theorem dX1_become_51 : decode cX1_become 51 = .ok (.return_, 1) := by decide +kernel
theorem dX1_mix_0 : decode cX1_mix 0 = .ok (.aload_n 0, 1) := by decide +kernel
theorem dX1_mix_1 : decode cX1_mix 1 = .ok (.getfield 14, 3) := by decide +kernel
theorem dX1_mix_4 : decode cX1_mix 4 = .ok (.aload_n 1, 1) := by decide +kernel
theorem dX1_mix_5 : decode cX1_mix 5 = .ok (.getfield 14, 3) := by decide +kernel
theorem dX1_mix_8 : decode cX1_mix 8 = .ok (.iload_n 2, 1) := by decide +kernel
theorem dX1_mix_9 : decode cX1_mix 9 = .ok (.iload_n 3, 1) := by decide +kernel
theorem dX1_mix_10 : decode cX1_mix 10 = .ok (.aload 4, 2) := by decide +kernel
theorem dX1_mix_12 : decode cX1_mix 12 = .ok (.getfield 14, 3) := by decide +kernel
theorem dX1_mix_15 : decode cX1_mix 15 = .ok (.aload 5, 2) := by decide +kernel
theorem dX1_mix_17 : decode cX1_mix 17 = .ok (.invokevirtual 38, 3) := by decide +kernel
theorem dX1_mix_20 : decode cX1_mix 20 = .ok (.ifCond .eq 30, 3) := by decide +kernel
theorem dX1_mix_23 : decode cX1_mix 23 = .ok (.aload_n 0, 1) := by decide +kernel
theorem dX1_mix_24 : decode cX1_mix 24 = .ok (.getfield 20, 3) := by decide +kernel
theorem dX1_mix_27 : decode cX1_mix 27 = .ok (.aload_n 1, 1) := by decide +kernel
theorem dX1_mix_28 : decode cX1_mix 28 = .ok (.getfield 20, 3) := by decide +kernel
theorem dX1_mix_31 : decode cX1_mix 31 = .ok (.iload_n 2, 1) := by decide +kernel
theorem dX1_mix_32 : decode cX1_mix 32 = .ok (.iload_n 3, 1) := by decide +kernel
theorem dX1_mix_33 : decode cX1_mix 33 = .ok (.aload 4, 2) := by decide +kernel
theorem dX1_mix_35 : decode cX1_mix 35 = .ok (.getfield 20, 3) := by decide +kernel
theorem dX1_mix_38 : decode cX1_mix 38 = .ok (.aload 5, 2) := by decide +kernel
theorem dX1_mix_40 : decode cX1_mix 40 = .ok (.invokevirtual 38, 3) := by decide +kernel
theorem dX1_mix_43 : decode cX1_mix 43 = .ok (.ifCond .eq 7, 3) := by decide +kernel
theorem dX1_mix_46 : decode cX1_mix 46 = .ok (.iconst 1, 1) := by decide +kernel
theorem dX1_mix_47 : decode cX1_mix 47 = .ok (.goto 4, 3) := by decide +kernel
theorem dX1_mix_50 : decode cX1_mix 50 = .ok (.iconst 0, 1) := by decide +kernel
theorem dX1_mix_51 : decode cX1_mix 51 = .ok (.istore 6, 2) := by decide +kernel
theorem dX1_mix_53 : decode cX1_mix 53 = .ok (.iconst 0, 1) := by decide +kernel
theorem dX1_mix_54 : decode cX1_mix 54 = .ok (.istore 7, 2) := by decide +kernel
theorem dX1_mix_56 : decode cX1_mix 56 = .ok (.iload 7, 2) := by decide +kernel
theorem dX1_mix_58 : decode cX1_mix 58 = .ok (.bipush 8, 2) := by decide +kernel
theorem dX1_mix_60 : decode cX1_mix 60 = .ok (.if_icmp .ge 45, 3) := by decide +kernel
theorem dX1_mix_63 : decode cX1_mix 63 = .ok (.iload 6, 2) := by decide +kernel
theorem dX1_mix_65 : decode cX1_mix 65 = .ok (.ifCond .eq 40, 3) := by decide +kernel
theorem dX1_mix_68 : decode cX1_mix 68 = .ok (.aload_n 0, 1) := by decide +kernel
theorem dX1_mix_69 : decode cX1_mix 69 = .ok (.getfield 27, 3) := by decide +kernel
theorem dX1_mix_72 : decode cX1_mix 72 = .ok (.iload 7, 2) := by decide +kernel
theorem dX1_mix_74 : decode cX1_mix 74 = .ok (.aaload, 1) := by decide +kernel
theorem dX1_mix_75 : decode cX1_mix 75 = .ok (.aload_n 1, 1) := by decide +kernel
theorem dX1_mix_76 : decode cX1_mix 76 = .ok (.getfield 27, 3) := by decide +kernel
theorem dX1_mix_79 : decode cX1_mix 79 = .ok (.iload 7, 2) := by decide +kernel
theorem dX1_mix_81 : decode cX1_mix 81 = .ok (.aaload, 1) := by decide +kernel
theorem dX1_mix_82 : decode cX1_mix 82 = .ok (.iload_n 2, 1) := by decide +kernel
theorem dX1_mix_83 : decode cX1_mix 83 = .ok (.iload_n 3, 1) := by decide +kernel
theorem dX1_mix_84 : decode cX1_mix 84 = .ok (.aload 4, 2) := by decide +kernel
theorem dX1_mix_86 : decode cX1_mix 86 = .ok (.getfield 27, 3) := by decide +kernel
theorem dX1_mix_89 : decode cX1_mix 89 = .ok (.iload 7, 2) := by decide +kernel
theorem dX1_mix_91 : decode cX1_mix 91 = .ok (.aaload, 1) := by decide +kernel
theorem dX1_mix_92 : decode cX1_mix 92 = .ok (.aload 5, 2) := by decide +kernel
theorem dX1_mix_94 : decode cX1_mix 94 = .ok (.invokevirtual 38, 3) := by decide +kernel
theorem dX1_mix_97 : decode cX1_mix 97 = .ok (.istore 6, 2) := by decide +kernel
theorem dX1_mix_99 : decode cX1_mix 99 = .ok (.iinc 7 1, 3) := by decide +kernel
theorem dX1_mix_102 : decode cX1_mix 102 = .ok (.goto (-46), 3) := by decide +kernel
theorem dX1_mix_105 : decode cX1_mix 105 = .ok (.iload 6, 2) := by decide +kernel
theorem dX1_mix_107 : decode cX1_mix 107 = .ok (.ireturn, 1) := by decide +kernel
end
section
theorem dX2_init_0 : decode cX2_init 0 = .ok (.aload_n 0, 1) := by decide +kernel
theorem dX2_init_1 : decode cX2_init 1 = .ok (.invokespecial 3, 3) := by decide +kernel
theorem dX2_init_4 : decode cX2_init 4 = .ok (.aload_n 0, 1) := by decide +kernel
theorem dX2_init_5 : decode cX2_init 5 = .ok (.iconst (-1), 1) := by decide +kernel
theorem dX2_init_6 : decode cX2_init 6 = .ok (.putfield 9, 3) := by decide +kernel
theorem dX2_init_9 : decode cX2_init 9 = .ok (.aload_n 0, 1) := by decide +kernel
theorem dX2_init_10 : decode cX2_init 10 = .ok (.bipush 120, 2) := by decide +kernel
theorem dX2_init_12 : decode cX2_init 12 = .ok (.bipush 120, 2) := by decide +kernel
theorem dX2_init_14 : decode cX2_init 14 = .ok (.multianewarray 15 2, 4) := by decide +kernel
theorem dX2_init_18 : decode cX2_init 18 = .ok (.putfield 17, 3) := by decide +kernel
theorem dX2_init_21 : decode cX2_init 21 = .ok (.aload_n 0, 1) := by decide +kernel
theorem dX2_init_22 : decode cX2_init 22 = .ok (.bipush 120, 2) := by decide +kernel
theorem dX2_init_24 : decode cX2_init 24 = .ok (.newarray .int, 2) := by decide +kernel
theorem dX2_init_26 : decode cX2_init 26 = .ok (.putfield 20, 3) := by decide +kernel
theorem dX2_init_29 : decode cX2_init 29 = .ok (.aload_n 0, 1) := by decide +kernel
theorem dX2_init_30 : decode cX2_init 30 = .ok (.bipush 120, 2) := by decide +kernel
theorem dX2_init_32 : decode cX2_init 32 = .ok (.newarray .int, 2) := by decide +kernel
theorem dX2_init_34 : decode cX2_init 34 = .ok (.putfield 24, 3) := by decide +kernel
theorem dX2_init_37 : decode cX2_init 37 = .ok (.return_, 1) := by decide +kernel
theorem dX2_build_0 : decode cX2_build 0 = .ok (.aload_n 3, 1) := by decide +kernel
theorem dX2_build_1 : decode cX2_build 1 = .ok (.invokevirtual 27, 3) := by decide +kernel
theorem dX2_build_4 : decode cX2_build 4 = .ok (.bipush 120, 2) := by decide +kernel
theorem dX2_build_6 : decode cX2_build 6 = .ok (.invokestatic 33, 3) := by decide +kernel
theorem dX2_build_9 : decode cX2_build 9 = .ok (.istore 4, 2) := by decide +kernel
theorem dX2_build_11 : decode cX2_build 11 = .ok (.aload_n 0, 1) := by decide +kernel
theorem dX2_build_12 : decode cX2_build 12 = .ok (.getfield 20, 3) := by decide +kernel
theorem dX2_build_15 : decode cX2_build 15 = .ok (.iconst 0, 1) := by decide +kernel
theorem dX2_build_16 : decode cX2_build 16 = .ok (.invokestatic 39, 3) := by decide +kernel
theorem dX2_build_19 : decode cX2_build 19 = .ok (.iconst 0, 1) := by decide +kernel
theorem dX2_build_20 : decode cX2_build 20 = .ok (.istore 5, 2) := by decide +kernel
theorem dX2_build_22 : decode cX2_build 22 = .ok (.iload 5, 2) := by decide +kernel
theorem dX2_build_24 : decode cX2_build 24 = .ok (.aload_n 1, 1) := by decide +kernel
theorem dX2_build_25 : decode cX2_build 25 = .ok (.arraylength, 1) := by decide +kernel
theorem dX2_build_26 : decode cX2_build 26 = .ok (.if_icmp .ge 38, 3) := by decide +kernel
theorem dX2_build_29 : decode cX2_build 29 = .ok (.iload_n 2, 1) := by decide +kernel
theorem dX2_build_30 : decode cX2_build 30 = .ok (.iload 5, 2) := by decide +kernel
theorem dX2_build_32 : decode cX2_build 32 = .ok (.ishr, 1) := by decide +kernel
theorem dX2_build_33 : decode cX2_build 33 = .ok (.iconst 1, 1) := by decide +kernel
theorem dX2_build_34 : decode cX2_build 34 = .ok (.iand, 1) := by decide +kernel
theorem dX2_build_35 : decode cX2_build 35 = .ok (.iconst 1, 1) := by decide +kernel
theorem dX2_build_36 : decode cX2_build 36 = .ok (.if_icmp .ne 22, 3) := by decide +kernel
theorem dX2_build_39 : decode cX2_build 39 = .ok (.aload_n 0, 1) := by decide +kernel
theorem dX2_build_40 : decode cX2_build 40 = .ok (.aload_n 1, 1) := by decide +kernel
theorem dX2_build_41 : decode cX2_build 41 = .ok (.iload 5, 2) := by decide +kernel
theorem dX2_build_43 : decode cX2_build 43 = .ok (.aaload, 1) := by decide +kernel
theorem dX2_build_44 : decode cX2_build 44 = .ok (.aload_n 3, 1) := by decide +kernel
theorem dX2_build_45 : decode cX2_build 45 = .ok (.invokevirtual 45, 3) := by decide +kernel
theorem dX2_build_48 : decode cX2_build 48 = .ok (.aload_n 0, 1) := by decide +kernel
theorem dX2_build_49 : decode cX2_build 49 = .ok (.iload 4, 2) := by decide +kernel
theorem dX2_build_51 : decode cX2_build 51 = .ok (.aload_n 3, 1) := by decide +kernel
theorem dX2_build_52 : decode cX2_build 52 = .ok (.getfield 49, 3) := by decide +kernel
theorem dX2_build_55 : decode cX2_build 55 = .ok (.invokevirtual 53, 3) := by decide +kernel
theorem dX2_build_58 : decode cX2_build 58 = .ok (.iinc 5 1, 3) := by decide +kernel
theorem dX2_build_61 : decode cX2_build 61 = .ok (.goto (-39), 3) := by decide +kernel
theorem dX2_build_64 : decode cX2_build 64 = .ok (.iconst 0, 1) := by decide +kernel
theorem dX2_build_65 : decode cX2_build 65 = .ok (.istore 5, 2) := by decide +kernel
theorem dX2_build_67 : decode cX2_build 67 = .ok (.iload 5, 2) := by decide +kernel
theorem dX2_build_69 : decode cX2_build 69 = .ok (.iload 4, 2) := by decide +kernel
theorem dX2_build_71 : decode cX2_build 71 = .ok (.if_icmp .ge 67, 3) := by decide +kernel
theorem dX2_build_74 : decode cX2_build 74 = .ok (.iconst 0, 1) := by decide +kernel
theorem dX2_build_75 : decode cX2_build 75 = .ok (.istore 6, 2) := by decide +kernel
theorem dX2_build_77 : decode cX2_build 77 = .ok (.iload 6, 2) := by decide +kernel
theorem dX2_build_79 : decode cX2_build 79 = .ok (.aload_n 3, 1) := by decide +kernel
theorem dX2_build_80 : decode cX2_build 80 = .ok (.getfield 57, 3) := by decide +kernel
theorem dX2_build_83 : decode cX2_build 83 = .ok (.if_icmp .ge 49, 3) := by decide +kernel
theorem dX2_build_86 : decode cX2_build 86 = .ok (.aload_n 0, 1) := by decide +kernel
theorem dX2_build_87 : decode cX2_build 87 = .ok (.getfield 20, 3) := by decide +kernel
theorem dX2_build_90 : decode cX2_build 90 = .ok (.iload 5, 2) := by decide +kernel
theorem dX2_build_92 : decode cX2_build 92 = .ok (.iaload, 1) := by decide +kernel
theorem dX2_build_93 : decode cX2_build 93 = .ok (.ifCond .eq 39, 3) := by decide +kernel
theorem dX2_build_96 : decode cX2_build 96 = .ok (.aload_n 0, 1) := by decide +kernel
theorem dX2_build_97 : decode cX2_build 97 = .ok (.aload_n 0, 1) := by decide +kernel
theorem dX2_build_98 : decode cX2_build 98 = .ok (.getfield 17, 3) := by decide +kernel
theorem dX2_build_101 : decode cX2_build 101 = .ok (.iload 5, 2) := by decide +kernel
theorem dX2_build_103 : decode cX2_build 103 = .ok (.aaload, 1) := by decide +kernel
theorem dX2_build_104 : decode cX2_build 104 = .ok (.aload_n 3, 1) := by decide +kernel
theorem dX2_build_105 : decode cX2_build 105 = .ok (.getfield 60, 3) := by decide +kernel
theorem dX2_build_108 : decode cX2_build 108 = .ok (.iload 6, 2) := by decide +kernel
theorem dX2_build_110 : decode cX2_build 110 = .ok (.aaload, 1) := by decide +kernel
theorem dX2_build_111 : decode cX2_build 111 = .ok (.iload 4, 2) := by decide +kernel
theorem dX2_build_113 : decode cX2_build 113 = .ok (.invokevirtual 63, 3) := by decide +kernel
theorem dX2_build_116 : decode cX2_build 116 = .ok (.aload_n 0, 1) := by decide +kernel
theorem dX2_build_117 : decode cX2_build 117 = .ok (.iload 4, 2) := by decide +kernel
theorem dX2_build_119 : decode cX2_build 119 = .ok (.aload_n 3, 1) := by decide +kernel
theorem dX2_build_120 : decode cX2_build 120 = .ok (.getfield 49, 3) := by decide +kernel
theorem dX2_build_123 : decode cX2_build 123 = .ok (.invokevirtual 53, 3) := by decide +kernel
theorem dX2_build_126 : decode cX2_build 126 = .ok (.iinc 6 1, 3) := by decide +kernel
theorem dX2_build_129 : decode cX2_build 129 = .ok (.goto (-52), 3) := by decide +kernel
theorem dX2_build_132 : decode cX2_build 132 = .ok (.iinc 5 1, 3) := by decide +kernel
theorem dX2_build_135 : decode cX2_build 135 = .ok (.goto (-68), 3) := by decide +kernel
theorem dX2_build_138 : decode cX2_build 138 = .ok (.iconst 0, 1) := by decide +kernel
theorem dX2_build_139 : decode cX2_build 139 = .ok (.istore 5, 2) := by decide +kernel
theorem dX2_build_141 : decode cX2_build 141 = .ok (.iload 5, 2) := by decide +kernel
theorem dX2_build_143 : decode cX2_build 143 = .ok (.iload 4, 2) := by decide +kernel
theorem dX2_build_145 : decode cX2_build 145 = .ok (.if_icmp .ge 51, 3) := by decide +kernel
theorem dX2_build_148 : decode cX2_build 148 = .ok (.iconst 0, 1) := by decide +kernel
theorem dX2_build_149 : decode cX2_build 149 = .ok (.istore 6, 2) := by decide +kernel
theorem dX2_build_151 : decode cX2_build 151 = .ok (.iload 6, 2) := by decide +kernel
theorem dX2_build_153 : decode cX2_build 153 = .ok (.aload_n 3, 1) := by decide +kernel
theorem dX2_build_154 : decode cX2_build 154 = .ok (.getfield 57, 3) := by decide +kernel
theorem dX2_build_157 : decode cX2_build 157 = .ok (.if_icmp .ge 33, 3) := by decide +kernel
theorem dX2_build_160 : decode cX2_build 160 = .ok (.aload_n 0, 1) := by decide +kernel
theorem dX2_build_161 : decode cX2_build 161 = .ok (.getfield 20, 3) := by decide +kernel
theorem dX2_build_164 : decode cX2_build 164 = .ok (.iload 5, 2) := by decide +kernel
theorem dX2_build_166 : decode cX2_build 166 = .ok (.iaload, 1) := by decide +kernel
theorem dX2_build_167 : decode cX2_build 167 = .ok (.ifCond .eq 23, 3) := by decide +kernel
theorem dX2_build_170 : decode cX2_build 170 = .ok (.aload_n 0, 1) := by decide +kernel
theorem dX2_build_171 : decode cX2_build 171 = .ok (.aload_n 3, 1) := by decide +kernel
theorem dX2_build_172 : decode cX2_build 172 = .ok (.getfield 60, 3) := by decide +kernel
theorem dX2_build_175 : decode cX2_build 175 = .ok (.iload 6, 2) := by decide +kernel
theorem dX2_build_177 : decode cX2_build 177 = .ok (.aaload, 1) := by decide +kernel
theorem dX2_build_178 : decode cX2_build 178 = .ok (.iload 5, 2) := by decide +kernel
theorem dX2_build_180 : decode cX2_build 180 = .ok (.iaload, 1) := by decide +kernel
theorem dX2_build_181 : decode cX2_build 181 = .ok (.invokevirtual 67, 3) := by decide +kernel
theorem dX2_build_184 : decode cX2_build 184 = .ok (.iinc 6 1, 3) := by decide +kernel
theorem dX2_build_187 : decode cX2_build 187 = .ok (.goto (-36), 3) := by decide +kernel
theorem dX2_build_190 : decode cX2_build 190 = .ok (.iinc 5 1, 3) := by decide +kernel
theorem dX2_build_193 : decode cX2_build 193 = .ok (.goto (-52), 3) := by decide +kernel
theorem dX2_build_196 : decode cX2_build 196 = .ok (.return_, 1) := by decide +kernel
theorem dX2_count_0 : decode cX2_count 0 = .ok (.iconst 0, 1) := by decide +kernel
theorem dX2_count_1 : decode cX2_count 1 = .ok (.istore 4, 2) := by decide +kernel
theorem dX2_count_3 : decode cX2_count 3 = .ok (.iload_n 2, 1) := by decide +kernel
theorem dX2_count_4 : decode cX2_count 4 = .ok (.iconst 0, 1) := by decide +kernel
theorem dX2_count_5 : decode cX2_count 5 = .ok (.invokestatic 71, 3) := by decide +kernel
theorem dX2_count_8 : decode cX2_count 8 = .ok (.istore 5, 2) := by decide +kernel
theorem dX2_count_10 : decode cX2_count 10 = .ok (.iload 5, 2) := by decide +kernel
theorem dX2_count_12 : decode cX2_count 12 = .ok (.iload_n 3, 1) := by decide +kernel
theorem dX2_count_13 : decode cX2_count 13 = .ok (.if_icmp .ge 29, 3) := by decide +kernel
theorem dX2_count_16 : decode cX2_count 16 = .ok (.iload 5, 2) := by decide +kernel
theorem dX2_count_18 : decode cX2_count 18 = .ok (.bipush 120, 2) := by decide +kernel
theorem dX2_count_20 : decode cX2_count 20 = .ok (.if_icmp .ge 22, 3) := by decide +kernel
theorem dX2_count_23 : decode cX2_count 23 = .ok (.aload_n 0, 1) := by decide +kernel
theorem dX2_count_24 : decode cX2_count 24 = .ok (.iload_n 1, 1) := by decide +kernel
theorem dX2_count_25 : decode cX2_count 25 = .ok (.iload 5, 2) := by decide +kernel
theorem dX2_count_27 : decode cX2_count 27 = .ok (.invokevirtual 74, 3) := by decide +kernel
theorem dX2_count_30 : decode cX2_count 30 = .ok (.ifCond .eq 6, 3) := by decide +kernel
theorem dX2_count_33 : decode cX2_count 33 = .ok (.iinc 4 1, 3) := by decide +kernel
theorem dX2_count_36 : decode cX2_count 36 = .ok (.iinc 5 1, 3) := by decide +kernel
theorem dX2_count_39 : decode cX2_count 39 = .ok (.goto (-29), 3) := by decide +kernel
theorem dX2_count_42 : decode cX2_count 42 = .ok (.iload 4, 2) := by decide +kernel
theorem dX2_count_44 : decode cX2_count 44 = .ok (.ireturn, 1) := by decide +kernel
theorem dX2_leaveOver_0 : decode cX2_leaveOver 0 = .ok (.aload 4, 2) := by decide +kernel
theorem dX2_leaveOver_2 : decode cX2_leaveOver 2 = .ok (.getfield 84, 3) := by decide +kernel
theorem dX2_leaveOver_5 : decode cX2_leaveOver 5 = .ok (.iload_n 2, 1) := by decide +kernel
theorem dX2_leaveOver_6 : decode cX2_leaveOver 6 = .ok (.iaload, 1) := by decide +kernel
theorem dX2_leaveOver_7 : decode cX2_leaveOver 7 = .ok (.bipush 120, 2) := by decide +kernel
theorem dX2_leaveOver_9 : decode cX2_leaveOver 9 = .ok (.invokestatic 33, 3) := by decide +kernel
theorem dX2_leaveOver_12 : decode cX2_leaveOver 12 = .ok (.istore 5, 2) := by decide +kernel
theorem dX2_leaveOver_14 : decode cX2_leaveOver 14 = .ok (.aload_n 0, 1) := by decide +kernel
theorem dX2_leaveOver_15 : decode cX2_leaveOver 15 = .ok (.aload_n 1, 1) := by decide +kernel
theorem dX2_leaveOver_16 : decode cX2_leaveOver 16 = .ok (.aload 4, 2) := by decide +kernel
theorem dX2_leaveOver_18 : decode cX2_leaveOver 18 = .ok (.invokevirtual 45, 3) := by decide +kernel
theorem dX2_leaveOver_21 : decode cX2_leaveOver 21 = .ok (.aload_n 3, 1) := by decide +kernel
theorem dX2_leaveOver_22 : decode cX2_leaveOver 22 = .ok (.invokevirtual 95, 3) := by decide +kernel
theorem dX2_leaveOver_25 : decode cX2_leaveOver 25 = .ok (.iconst 0, 1) := by decide +kernel
theorem dX2_leaveOver_26 : decode cX2_leaveOver 26 = .ok (.istore 6, 2) := by decide +kernel
theorem dX2_leaveOver_28 : decode cX2_leaveOver 28 = .ok (.iload 6, 2) := by decide +kernel
theorem dX2_leaveOver_30 : decode cX2_leaveOver 30 = .ok (.iload 5, 2) := by decide +kernel
theorem dX2_leaveOver_32 : decode cX2_leaveOver 32 = .ok (.if_icmp .ge 79, 3) := by decide +kernel
theorem dX2_leaveOver_35 : decode cX2_leaveOver 35 = .ok (.aload_n 0, 1) := by decide +kernel
theorem dX2_leaveOver_36 : decode cX2_leaveOver 36 = .ok (.getfield 24, 3) := by decide +kernel
theorem dX2_leaveOver_39 : decode cX2_leaveOver 39 = .ok (.iload 6, 2) := by decide +kernel
theorem dX2_leaveOver_41 : decode cX2_leaveOver 41 = .ok (.iaload, 1) := by decide +kernel
theorem dX2_leaveOver_42 : decode cX2_leaveOver 42 = .ok (.ifCond .eq 29, 3) := by decide +kernel
theorem dX2_leaveOver_45 : decode cX2_leaveOver 45 = .ok (.aload_n 0, 1) := by decide +kernel
theorem dX2_leaveOver_46 : decode cX2_leaveOver 46 = .ok (.getfield 20, 3) := by decide +kernel
theorem dX2_leaveOver_49 : decode cX2_leaveOver 49 = .ok (.iload 6, 2) := by decide +kernel
theorem dX2_leaveOver_51 : decode cX2_leaveOver 51 = .ok (.iaload, 1) := by decide +kernel
theorem dX2_leaveOver_52 : decode cX2_leaveOver 52 = .ok (.ifCond .eq 19, 3) := by decide +kernel
theorem dX2_leaveOver_55 : decode cX2_leaveOver 55 = .ok (.aload_n 0, 1) := by decide +kernel
theorem dX2_leaveOver_56 : decode cX2_leaveOver 56 = .ok (.iload 6, 2) := by decide +kernel
theorem dX2_leaveOver_58 : decode cX2_leaveOver 58 = .ok (.iload 5, 2) := by decide +kernel
theorem dX2_leaveOver_60 : decode cX2_leaveOver 60 = .ok (.aload 4, 2) := by decide +kernel
theorem dX2_leaveOver_62 : decode cX2_leaveOver 62 = .ok (.getfield 49, 3) := by decide +kernel
theorem dX2_leaveOver_65 : decode cX2_leaveOver 65 = .ok (.invokevirtual 100, 3) := by decide +kernel
theorem dX2_leaveOver_68 : decode cX2_leaveOver 68 = .ok (.goto 37, 3) := by decide +kernel
theorem dX2_leaveOver_71 : decode cX2_leaveOver 71 = .ok (.aload_n 0, 1) := by decide +kernel
theorem dX2_leaveOver_72 : decode cX2_leaveOver 72 = .ok (.getfield 24, 3) := by decide +kernel
theorem dX2_leaveOver_75 : decode cX2_leaveOver 75 = .ok (.iload 6, 2) := by decide +kernel
theorem dX2_leaveOver_77 : decode cX2_leaveOver 77 = .ok (.iaload, 1) := by decide +kernel
theorem dX2_leaveOver_78 : decode cX2_leaveOver 78 = .ok (.ifCond .eq 27, 3) := by decide +kernel
theorem dX2_leaveOver_81 : decode cX2_leaveOver 81 = .ok (.aload_n 3, 1) := by decide +kernel
theorem dX2_leaveOver_82 : decode cX2_leaveOver 82 = .ok (.aload 4, 2) := by decide +kernel
theorem dX2_leaveOver_84 : decode cX2_leaveOver 84 = .ok (.getfield 104, 3) := by decide +kernel
theorem dX2_leaveOver_87 : decode cX2_leaveOver 87 = .ok (.iload 6, 2) := by decide +kernel
theorem dX2_leaveOver_89 : decode cX2_leaveOver 89 = .ok (.iaload, 1) := by decide +kernel
theorem dX2_leaveOver_90 : decode cX2_leaveOver 90 = .ok (.aload_n 0, 1) := by decide +kernel
theorem dX2_leaveOver_91 : decode cX2_leaveOver 91 = .ok (.getfield 24, 3) := by decide +kernel
theorem dX2_leaveOver_94 : decode cX2_leaveOver 94 = .ok (.iload 6, 2) := by decide +kernel
theorem dX2_leaveOver_96 : decode cX2_leaveOver 96 = .ok (.iaload, 1) := by decide +kernel
theorem dX2_leaveOver_97 : decode cX2_leaveOver 97 = .ok (.invokevirtual 107, 3) := by decide +kernel
theorem dX2_leaveOver_100 : decode cX2_leaveOver 100 = .ok (.ifCond .ne 5, 3) := by decide +kernel
theorem dX2_leaveOver_103 : decode cX2_leaveOver 103 = .ok (.iconst 0, 1) := by decide +kernel
theorem dX2_leaveOver_104 : decode cX2_leaveOver 104 = .ok (.ireturn, 1) := by decide +kernel
theorem dX2_leaveOver_105 : decode cX2_leaveOver 105 = .ok (.iinc 6 1, 3) := by decide +kernel
theorem dX2_leaveOver_108 : decode cX2_leaveOver 108 = .ok (.goto (-80), 3) := by decide +kernel
theorem dX2_leaveOver_111 : decode cX2_leaveOver 111 = .ok (.iconst 1, 1) := by decide +kernel
theorem dX2_leaveOver_112 : decode cX2_leaveOver 112 = .ok (.ireturn, 1) := by decide +kernel
theorem dX2_isOf_0 : decode cX2_isOf 0 = .ok (.aload_n 0, 1) := by decide +kernel
theorem dX2_isOf_1 : decode cX2_isOf 1 = .ok (.getfield 20, 3) := by decide +kernel
theorem dX2_isOf_4 : decode cX2_isOf 4 = .ok (.iload_n 2, 1) := by decide +kernel
theorem dX2_isOf_5 : decode cX2_isOf 5 = .ok (.iaload, 1) := by decide +kernel
theorem dX2_isOf_6 : decode cX2_isOf 6 = .ok (.iload_n 1, 1) := by decide +kernel
theorem dX2_isOf_7 : decode cX2_isOf 7 = .ok (.if_icmp .ne 7, 3) := by decide +kernel
theorem dX2_isOf_10 : decode cX2_isOf 10 = .ok (.iconst 1, 1) := by decide +kernel
theorem dX2_isOf_11 : decode cX2_isOf 11 = .ok (.goto 4, 3) := by decide +kernel
theorem dX2_isOf_14 : decode cX2_isOf 14 = .ok (.iconst 0, 1) := by decide +kernel
theorem dX2_isOf_15 : decode cX2_isOf 15 = .ok (.ireturn, 1) := by decide +kernel
theorem dX2_load_0 : decode cX2_load 0 = .ok (.aload_n 0, 1) := by decide +kernel
theorem dX2_load_1 : decode cX2_load 1 = .ok (.getfield 24, 3) := by decide +kernel
theorem dX2_load_4 : decode cX2_load 4 = .ok (.iconst 0, 1) := by decide +kernel
theorem dX2_load_5 : decode cX2_load 5 = .ok (.invokestatic 39, 3) := by decide +kernel
theorem dX2_load_8 : decode cX2_load 8 = .ok (.iconst 0, 1) := by decide +kernel
theorem dX2_load_9 : decode cX2_load 9 = .ok (.istore_n 3, 1) := by decide +kernel
theorem dX2_load_10 : decode cX2_load 10 = .ok (.iload_n 3, 1) := by decide +kernel
theorem dX2_load_11 : decode cX2_load 11 = .ok (.aload_n 1, 1) := by decide +kernel
theorem dX2_load_12 : decode cX2_load 12 = .ok (.getfield 110, 3) := by decide +kernel
theorem dX2_load_15 : decode cX2_load 15 = .ok (.if_icmp .ge 46, 3) := by decide +kernel
theorem dX2_load_18 : decode cX2_load 18 = .ok (.aload_n 2, 1) := by decide +kernel
theorem dX2_load_19 : decode cX2_load 19 = .ok (.aload_n 1, 1) := by decide +kernel
theorem dX2_load_20 : decode cX2_load 20 = .ok (.getfield 113, 3) := by decide +kernel
theorem dX2_load_23 : decode cX2_load 23 = .ok (.iload_n 3, 1) := by decide +kernel
theorem dX2_load_24 : decode cX2_load 24 = .ok (.iaload, 1) := by decide +kernel
theorem dX2_load_25 : decode cX2_load 25 = .ok (.invokevirtual 114, 3) := by decide +kernel
theorem dX2_load_28 : decode cX2_load 28 = .ok (.istore 4, 2) := by decide +kernel
theorem dX2_load_30 : decode cX2_load 30 = .ok (.iload 4, 2) := by decide +kernel
theorem dX2_load_32 : decode cX2_load 32 = .ok (.ifCond .lt 23, 3) := by decide +kernel
theorem dX2_load_35 : decode cX2_load 35 = .ok (.iload 4, 2) := by decide +kernel
theorem dX2_load_37 : decode cX2_load 37 = .ok (.bipush 120, 2) := by decide +kernel
theorem dX2_load_39 : decode cX2_load 39 = .ok (.if_icmp .ge 16, 3) := by decide +kernel
theorem dX2_load_42 : decode cX2_load 42 = .ok (.aload_n 0, 1) := by decide +kernel
theorem dX2_load_43 : decode cX2_load 43 = .ok (.getfield 24, 3) := by decide +kernel
theorem dX2_load_46 : decode cX2_load 46 = .ok (.iload 4, 2) := by decide +kernel
theorem dX2_load_48 : decode cX2_load 48 = .ok (.aload_n 1, 1) := by decide +kernel
theorem dX2_load_49 : decode cX2_load 49 = .ok (.getfield 118, 3) := by decide +kernel
theorem dX2_load_52 : decode cX2_load 52 = .ok (.iload_n 3, 1) := by decide +kernel
theorem dX2_load_53 : decode cX2_load 53 = .ok (.iaload, 1) := by decide +kernel
theorem dX2_load_54 : decode cX2_load 54 = .ok (.iastore, 1) := by decide +kernel
theorem dX2_load_55 : decode cX2_load 55 = .ok (.iinc 3 1, 3) := by decide +kernel
theorem dX2_load_58 : decode cX2_load 58 = .ok (.goto (-48), 3) := by decide +kernel
theorem dX2_load_61 : decode cX2_load 61 = .ok (.return_, 1) := by decide +kernel
theorem dX2_loadProduct_0 : decode cX2_loadProduct 0 = .ok (.aload_n 0, 1) := by decide +kernel
theorem dX2_loadProduct_1 : decode cX2_loadProduct 1 = .ok (.getfield 24, 3) := by decide +kernel
theorem dX2_loadProduct_4 : decode cX2_loadProduct 4 = .ok (.iconst 0, 1) := by decide +kernel
theorem dX2_loadProduct_5 : decode cX2_loadProduct 5 = .ok (.invokestatic 39, 3) := by decide +kernel
theorem dX2_loadProduct_8 : decode cX2_loadProduct 8 = .ok (.iconst 0, 1) := by decide +kernel
theorem dX2_loadProduct_9 : decode cX2_loadProduct 9 = .ok (.istore 4, 2) := by decide +kernel
theorem dX2_loadProduct_11 : decode cX2_loadProduct 11 = .ok (.iload 4, 2) := by decide +kernel
theorem dX2_loadProduct_13 : decode cX2_loadProduct 13 = .ok (.iload_n 3, 1) := by decide +kernel
theorem dX2_loadProduct_14 : decode cX2_loadProduct 14 = .ok (.if_icmp .ge 52, 3) := by decide +kernel
theorem dX2_loadProduct_17 : decode cX2_loadProduct 17 = .ok (.iload 4, 2) := by decide +kernel
theorem dX2_loadProduct_19 : decode cX2_loadProduct 19 = .ok (.aload_n 1, 1) := by decide +kernel
theorem dX2_loadProduct_20 : decode cX2_loadProduct 20 = .ok (.arraylength, 1) := by decide +kernel
theorem dX2_loadProduct_21 : decode cX2_loadProduct 21 = .ok (.if_icmp .ge 45, 3) := by decide +kernel
theorem dX2_loadProduct_24 : decode cX2_loadProduct 24 = .ok (.iload 4, 2) := by decide +kernel
theorem dX2_loadProduct_26 : decode cX2_loadProduct 26 = .ok (.aload_n 2, 1) := by decide +kernel
theorem dX2_loadProduct_27 : decode cX2_loadProduct 27 = .ok (.arraylength, 1) := by decide +kernel
theorem dX2_loadProduct_28 : decode cX2_loadProduct 28 = .ok (.if_icmp .ge 38, 3) := by decide +kernel
theorem dX2_loadProduct_31 : decode cX2_loadProduct 31 = .ok (.aload_n 2, 1) := by decide +kernel
theorem dX2_loadProduct_32 : decode cX2_loadProduct 32 = .ok (.iload 4, 2) := by decide +kernel
theorem dX2_loadProduct_34 : decode cX2_loadProduct 34 = .ok (.iaload, 1) := by decide +kernel
theorem dX2_loadProduct_35 : decode cX2_loadProduct 35 = .ok (.istore 5, 2) := by decide +kernel
theorem dX2_loadProduct_37 : decode cX2_loadProduct 37 = .ok (.iload 5, 2) := by decide +kernel
theorem dX2_loadProduct_39 : decode cX2_loadProduct 39 = .ok (.ifCond .lt 21, 3) := by decide +kernel
theorem dX2_loadProduct_42 : decode cX2_loadProduct 42 = .ok (.iload 5, 2) := by decide +kernel
theorem dX2_loadProduct_44 : decode cX2_loadProduct 44 = .ok (.bipush 120, 2) := by decide +kernel
theorem dX2_loadProduct_46 : decode cX2_loadProduct 46 = .ok (.if_icmp .ge 14, 3) := by decide +kernel
theorem dX2_loadProduct_49 : decode cX2_loadProduct 49 = .ok (.aload_n 0, 1) := by decide +kernel
theorem dX2_loadProduct_50 : decode cX2_loadProduct 50 = .ok (.getfield 24, 3) := by decide +kernel
theorem dX2_loadProduct_53 : decode cX2_loadProduct 53 = .ok (.iload 5, 2) := by decide +kernel
theorem dX2_loadProduct_55 : decode cX2_loadProduct 55 = .ok (.aload_n 1, 1) := by decide +kernel
theorem dX2_loadProduct_56 : decode cX2_loadProduct 56 = .ok (.iload 4, 2) := by decide +kernel
theorem dX2_loadProduct_58 : decode cX2_loadProduct 58 = .ok (.iaload, 1) := by decide +kernel
theorem dX2_loadProduct_59 : decode cX2_loadProduct 59 = .ok (.iastore, 1) := by decide +kernel
theorem dX2_loadProduct_60 : decode cX2_loadProduct 60 = .ok (.iinc 4 1, 3) := by decide +kernel
theorem dX2_loadProduct_63 : decode cX2_loadProduct 63 = .ok (.goto (-52), 3) := by decide +kernel
theorem dX2_loadProduct_66 : decode cX2_loadProduct 66 = .ok (.return_, 1) := by decide +kernel
theorem dX2_insertLine_0 : decode cX2_insertLine 0 = .ok (.iconst 0, 1) := by decide +kernel
theorem dX2_insertLine_1 : decode cX2_insertLine 1 = .ok (.istore_n 3, 1) := by decide +kernel
theorem dX2_insertLine_2 : decode cX2_insertLine 2 = .ok (.iload_n 3, 1) := by decide +kernel
theorem dX2_insertLine_3 : decode cX2_insertLine 3 = .ok (.iload_n 1, 1) := by decide +kernel
theorem dX2_insertLine_4 : decode cX2_insertLine 4 = .ok (.if_icmp .ge 51, 3) := by decide +kernel
theorem dX2_insertLine_7 : decode cX2_insertLine 7 = .ok (.aload_n 0, 1) := by decide +kernel
theorem dX2_insertLine_8 : decode cX2_insertLine 8 = .ok (.getfield 24, 3) := by decide +kernel
theorem dX2_insertLine_11 : decode cX2_insertLine 11 = .ok (.iload_n 3, 1) := by decide +kernel
theorem dX2_insertLine_12 : decode cX2_insertLine 12 = .ok (.iaload, 1) := by decide +kernel
theorem dX2_insertLine_13 : decode cX2_insertLine 13 = .ok (.ifCond .eq 20, 3) := by decide +kernel
theorem dX2_insertLine_16 : decode cX2_insertLine 16 = .ok (.aload_n 0, 1) := by decide +kernel
theorem dX2_insertLine_17 : decode cX2_insertLine 17 = .ok (.getfield 20, 3) := by decide +kernel
theorem dX2_insertLine_20 : decode cX2_insertLine 20 = .ok (.iload_n 3, 1) := by decide +kernel
theorem dX2_insertLine_21 : decode cX2_insertLine 21 = .ok (.iaload, 1) := by decide +kernel
theorem dX2_insertLine_22 : decode cX2_insertLine 22 = .ok (.ifCond .ne 11, 3) := by decide +kernel
theorem dX2_insertLine_25 : decode cX2_insertLine 25 = .ok (.aload_n 0, 1) := by decide +kernel
theorem dX2_insertLine_26 : decode cX2_insertLine 26 = .ok (.iload_n 3, 1) := by decide +kernel
theorem dX2_insertLine_27 : decode cX2_insertLine 27 = .ok (.iload_n 1, 1) := by decide +kernel
theorem dX2_insertLine_28 : decode cX2_insertLine 28 = .ok (.aload_n 2, 1) := by decide +kernel
theorem dX2_insertLine_29 : decode cX2_insertLine 29 = .ok (.invokevirtual 121, 3) := by decide +kernel
theorem dX2_insertLine_32 : decode cX2_insertLine 32 = .ok (.return_, 1) := by decide +kernel
theorem dX2_insertLine_33 : decode cX2_insertLine 33 = .ok (.aload_n 0, 1) := by decide +kernel
theorem dX2_insertLine_34 : decode cX2_insertLine 34 = .ok (.getfield 24, 3) := by decide +kernel
theorem dX2_insertLine_37 : decode cX2_insertLine 37 = .ok (.iload_n 3, 1) := by decide +kernel
theorem dX2_insertLine_38 : decode cX2_insertLine 38 = .ok (.iaload, 1) := by decide +kernel
theorem dX2_insertLine_39 : decode cX2_insertLine 39 = .ok (.ifCond .eq 10, 3) := by decide +kernel
theorem dX2_insertLine_42 : decode cX2_insertLine 42 = .ok (.aload_n 0, 1) := by decide +kernel
theorem dX2_insertLine_43 : decode cX2_insertLine 43 = .ok (.iload_n 3, 1) := by decide +kernel
theorem dX2_insertLine_44 : decode cX2_insertLine 44 = .ok (.iload_n 1, 1) := by decide +kernel
theorem dX2_insertLine_45 : decode cX2_insertLine 45 = .ok (.aload_n 2, 1) := by decide +kernel
theorem dX2_insertLine_46 : decode cX2_insertLine 46 = .ok (.invokevirtual 100, 3) := by decide +kernel
theorem dX2_insertLine_49 : decode cX2_insertLine 49 = .ok (.iinc 3 1, 3) := by decide +kernel
theorem dX2_insertLine_52 : decode cX2_insertLine 52 = .ok (.goto (-50), 3) := by decide +kernel
theorem dX2_insertLine_55 : decode cX2_insertLine 55 = .ok (.return_, 1) := by decide +kernel
theorem dX2_storeRow_0 : decode cX2_storeRow 0 = .ok (.aload_n 3, 1) := by decide +kernel
theorem dX2_storeRow_1 : decode cX2_storeRow 1 = .ok (.aload_n 0, 1) := by decide +kernel
theorem dX2_storeRow_2 : decode cX2_storeRow 2 = .ok (.getfield 24, 3) := by decide +kernel
theorem dX2_storeRow_5 : decode cX2_storeRow 5 = .ok (.iload_n 1, 1) := by decide +kernel
theorem dX2_storeRow_6 : decode cX2_storeRow 6 = .ok (.iaload, 1) := by decide +kernel
theorem dX2_storeRow_7 : decode cX2_storeRow 7 = .ok (.invokevirtual 124, 3) := by decide +kernel
theorem dX2_storeRow_10 : decode cX2_storeRow 10 = .ok (.istore 4, 2) := by decide +kernel
theorem dX2_storeRow_12 : decode cX2_storeRow 12 = .ok (.iload_n 1, 1) := by decide +kernel
theorem dX2_storeRow_13 : decode cX2_storeRow 13 = .ok (.istore 5, 2) := by decide +kernel
theorem dX2_storeRow_15 : decode cX2_storeRow 15 = .ok (.iload 5, 2) := by decide +kernel
theorem dX2_storeRow_17 : decode cX2_storeRow 17 = .ok (.iload_n 2, 1) := by decide +kernel
theorem dX2_storeRow_18 : decode cX2_storeRow 18 = .ok (.if_icmp .ge 31, 3) := by decide +kernel
theorem dX2_storeRow_21 : decode cX2_storeRow 21 = .ok (.aload_n 0, 1) := by decide +kernel
theorem dX2_storeRow_22 : decode cX2_storeRow 22 = .ok (.getfield 17, 3) := by decide +kernel
theorem dX2_storeRow_25 : decode cX2_storeRow 25 = .ok (.iload_n 1, 1) := by decide +kernel
theorem dX2_storeRow_26 : decode cX2_storeRow 26 = .ok (.aaload, 1) := by decide +kernel
theorem dX2_storeRow_27 : decode cX2_storeRow 27 = .ok (.iload 5, 2) := by decide +kernel
theorem dX2_storeRow_29 : decode cX2_storeRow 29 = .ok (.aload_n 3, 1) := by decide +kernel
theorem dX2_storeRow_30 : decode cX2_storeRow 30 = .ok (.aload_n 0, 1) := by decide +kernel
theorem dX2_storeRow_31 : decode cX2_storeRow 31 = .ok (.getfield 24, 3) := by decide +kernel
theorem dX2_storeRow_34 : decode cX2_storeRow 34 = .ok (.iload 5, 2) := by decide +kernel
theorem dX2_storeRow_36 : decode cX2_storeRow 36 = .ok (.iaload, 1) := by decide +kernel
theorem dX2_storeRow_37 : decode cX2_storeRow 37 = .ok (.iload 4, 2) := by decide +kernel
theorem dX2_storeRow_39 : decode cX2_storeRow 39 = .ok (.invokevirtual 129, 3) := by decide +kernel
theorem dX2_storeRow_42 : decode cX2_storeRow 42 = .ok (.iastore, 1) := by decide +kernel
theorem dX2_storeRow_43 : decode cX2_storeRow 43 = .ok (.iinc 5 1, 3) := by decide +kernel
theorem dX2_storeRow_46 : decode cX2_storeRow 46 = .ok (.goto (-31), 3) := by decide +kernel
theorem dX2_storeRow_49 : decode cX2_storeRow 49 = .ok (.aload_n 0, 1) := by decide +kernel
theorem dX2_storeRow_50 : decode cX2_storeRow 50 = .ok (.getfield 20, 3) := by decide +kernel
theorem dX2_storeRow_53 : decode cX2_storeRow 53 = .ok (.iload_n 1, 1) := by decide +kernel
theorem dX2_storeRow_54 : decode cX2_storeRow 54 = .ok (.iconst 2, 1) := by decide +kernel
theorem dX2_storeRow_55 : decode cX2_storeRow 55 = .ok (.iastore, 1) := by decide +kernel
theorem dX2_storeRow_56 : decode cX2_storeRow 56 = .ok (.return_, 1) := by decide +kernel
theorem dX2_subtractRow_0 : decode cX2_subtractRow 0 = .ok (.aload_n 0, 1) := by decide +kernel
theorem dX2_subtractRow_1 : decode cX2_subtractRow 1 = .ok (.getfield 17, 3) := by decide +kernel
theorem dX2_subtractRow_4 : decode cX2_subtractRow 4 = .ok (.iload_n 1, 1) := by decide +kernel
theorem dX2_subtractRow_5 : decode cX2_subtractRow 5 = .ok (.aaload, 1) := by decide +kernel
theorem dX2_subtractRow_6 : decode cX2_subtractRow 6 = .ok (.astore 4, 2) := by decide +kernel
theorem dX2_subtractRow_8 : decode cX2_subtractRow 8 = .ok (.aload_n 3, 1) := by decide +kernel
theorem dX2_subtractRow_9 : decode cX2_subtractRow 9 = .ok (.aload_n 0, 1) := by decide +kernel
theorem dX2_subtractRow_10 : decode cX2_subtractRow 10 = .ok (.getfield 24, 3) := by decide +kernel
theorem dX2_subtractRow_13 : decode cX2_subtractRow 13 = .ok (.iload_n 1, 1) := by decide +kernel
theorem dX2_subtractRow_14 : decode cX2_subtractRow 14 = .ok (.iaload, 1) := by decide +kernel
theorem dX2_subtractRow_15 : decode cX2_subtractRow 15 = .ok (.invokevirtual 132, 3) := by decide +kernel
theorem dX2_subtractRow_18 : decode cX2_subtractRow 18 = .ok (.istore 5, 2) := by decide +kernel
theorem dX2_subtractRow_20 : decode cX2_subtractRow 20 = .ok (.iload_n 1, 1) := by decide +kernel
theorem dX2_subtractRow_21 : decode cX2_subtractRow 21 = .ok (.istore 6, 2) := by decide +kernel
theorem dX2_subtractRow_23 : decode cX2_subtractRow 23 = .ok (.iload 6, 2) := by decide +kernel
theorem dX2_subtractRow_25 : decode cX2_subtractRow 25 = .ok (.iload_n 2, 1) := by decide +kernel
theorem dX2_subtractRow_26 : decode cX2_subtractRow 26 = .ok (.if_icmp .ge 42, 3) := by decide +kernel
theorem dX2_subtractRow_29 : decode cX2_subtractRow 29 = .ok (.aload 4, 2) := by decide +kernel
theorem dX2_subtractRow_31 : decode cX2_subtractRow 31 = .ok (.iload 6, 2) := by decide +kernel
theorem dX2_subtractRow_33 : decode cX2_subtractRow 33 = .ok (.iaload, 1) := by decide +kernel
theorem dX2_subtractRow_34 : decode cX2_subtractRow 34 = .ok (.ifCond .eq 28, 3) := by decide +kernel
theorem dX2_subtractRow_37 : decode cX2_subtractRow 37 = .ok (.aload_n 0, 1) := by decide +kernel
theorem dX2_subtractRow_38 : decode cX2_subtractRow 38 = .ok (.getfield 24, 3) := by decide +kernel
theorem dX2_subtractRow_41 : decode cX2_subtractRow 41 = .ok (.iload 6, 2) := by decide +kernel
theorem dX2_subtractRow_43 : decode cX2_subtractRow 43 = .ok (.aload_n 3, 1) := by decide +kernel
theorem dX2_subtractRow_44 : decode cX2_subtractRow 44 = .ok (.aload_n 0, 1) := by decide +kernel
theorem dX2_subtractRow_45 : decode cX2_subtractRow 45 = .ok (.getfield 24, 3) := by decide +kernel
theorem dX2_subtractRow_48 : decode cX2_subtractRow 48 = .ok (.iload 6, 2) := by decide +kernel
theorem dX2_subtractRow_50 : decode cX2_subtractRow 50 = .ok (.iaload, 1) := by decide +kernel
theorem dX2_subtractRow_51 : decode cX2_subtractRow 51 = .ok (.iload 5, 2) := by decide +kernel
theorem dX2_subtractRow_53 : decode cX2_subtractRow 53 = .ok (.aload 4, 2) := by decide +kernel
theorem dX2_subtractRow_55 : decode cX2_subtractRow 55 = .ok (.iload 6, 2) := by decide +kernel
theorem dX2_subtractRow_57 : decode cX2_subtractRow 57 = .ok (.iaload, 1) := by decide +kernel
theorem dX2_subtractRow_58 : decode cX2_subtractRow 58 = .ok (.invokevirtual 135, 3) := by decide +kernel
theorem dX2_subtractRow_61 : decode cX2_subtractRow 61 = .ok (.iastore, 1) := by decide +kernel
theorem dX2_subtractRow_62 : decode cX2_subtractRow 62 = .ok (.iinc 6 1, 3) := by decide +kernel
theorem dX2_subtractRow_65 : decode cX2_subtractRow 65 = .ok (.goto (-42), 3) := by decide +kernel
theorem dX2_subtractRow_68 : decode cX2_subtractRow 68 = .ok (.return_, 1) := by decide +kernel
theorem dX2_markNoCorner_0 : decode cX2_markNoCorner 0 = .ok (.iload_n 1, 1) := by decide +kernel
theorem dX2_markNoCorner_1 : decode cX2_markNoCorner 1 = .ok (.ifCond .lt 16, 3) := by decide +kernel
theorem dX2_markNoCorner_4 : decode cX2_markNoCorner 4 = .ok (.iload_n 1, 1) := by decide +kernel
theorem dX2_markNoCorner_5 : decode cX2_markNoCorner 5 = .ok (.bipush 120, 2) := by decide +kernel
theorem dX2_markNoCorner_7 : decode cX2_markNoCorner 7 = .ok (.if_icmp .ge 10, 3) := by decide +kernel
theorem dX2_markNoCorner_10 : decode cX2_markNoCorner 10 = .ok (.aload_n 0, 1) := by decide +kernel
theorem dX2_markNoCorner_11 : decode cX2_markNoCorner 11 = .ok (.getfield 20, 3) := by decide +kernel
theorem dX2_markNoCorner_14 : decode cX2_markNoCorner 14 = .ok (.iload_n 1, 1) := by decide +kernel
theorem dX2_markNoCorner_15 : decode cX2_markNoCorner 15 = .ok (.iconst 1, 1) := by decide +kernel
theorem dX2_markNoCorner_16 : decode cX2_markNoCorner 16 = .ok (.iastore, 1) := by decide +kernel
theorem dX2_markNoCorner_17 : decode cX2_markNoCorner 17 = .ok (.return_, 1) := by decide +kernel
end
section
theorem dX3_degree_0 : decode cX3_degree 0 = .ok (.iload_n 0, 1) := by decide +kernel
theorem dX3_degree_1 : decode cX3_degree 1 = .ok (.bipush 18, 2) := by decide +kernel
theorem dX3_degree_3 : decode cX3_degree 3 = .ok (.ishr, 1) := by decide +kernel
theorem dX3_degree_4 : decode cX3_degree 4 = .ok (.ireturn, 1) := by decide +kernel
theorem dX3_exponent_0 : decode cX3_exponent 0 = .ok (.iload_n 0, 1) := by decide +kernel
theorem dX3_exponent_1 : decode cX3_exponent 1 = .ok (.iconst (-1), 1) := by decide +kernel
theorem dX3_exponent_2 : decode cX3_exponent 2 = .ok (.ixor, 1) := by decide +kernel
theorem dX3_exponent_3 : decode cX3_exponent 3 = .ok (.ldc 13, 2) := by decide +kernel
theorem dX3_exponent_5 : decode cX3_exponent 5 = .ok (.iand, 1) := by decide +kernel
theorem dX3_exponent_6 : decode cX3_exponent 6 = .ok (.bipush 6, 2) := by decide +kernel
theorem dX3_exponent_8 : decode cX3_exponent 8 = .ok (.iconst 2, 1) := by decide +kernel
theorem dX3_exponent_9 : decode cX3_exponent 9 = .ok (.iload_n 1, 1) := by decide +kernel
theorem dX3_exponent_10 : decode cX3_exponent 10 = .ok (.isub, 1) := by decide +kernel
theorem dX3_exponent_11 : decode cX3_exponent 11 = .ok (.imul, 1) := by decide +kernel
theorem dX3_exponent_12 : decode cX3_exponent 12 = .ok (.ishr, 1) := by decide +kernel
theorem dX3_exponent_13 : decode cX3_exponent 13 = .ok (.bipush 63, 2) := by decide +kernel
theorem dX3_exponent_15 : decode cX3_exponent 15 = .ok (.iand, 1) := by decide +kernel
theorem dX3_exponent_16 : decode cX3_exponent 16 = .ok (.ireturn, 1) := by decide +kernel
theorem dX3_of_0 : decode cX3_of 0 = .ok (.iload_n 0, 1) := by decide +kernel
theorem dX3_of_1 : decode cX3_of 1 = .ok (.bipush 18, 2) := by decide +kernel
theorem dX3_of_3 : decode cX3_of 3 = .ok (.ishl, 1) := by decide +kernel
theorem dX3_of_4 : decode cX3_of 4 = .ok (.ldc 13, 2) := by decide +kernel
theorem dX3_of_6 : decode cX3_of 6 = .ok (.iadd, 1) := by decide +kernel
theorem dX3_of_7 : decode cX3_of 7 = .ok (.iload_n 1, 1) := by decide +kernel
theorem dX3_of_8 : decode cX3_of 8 = .ok (.bipush 12, 2) := by decide +kernel
theorem dX3_of_10 : decode cX3_of 10 = .ok (.ishl, 1) := by decide +kernel
theorem dX3_of_11 : decode cX3_of 11 = .ok (.iload_n 2, 1) := by decide +kernel
theorem dX3_of_12 : decode cX3_of 12 = .ok (.bipush 6, 2) := by decide +kernel
theorem dX3_of_14 : decode cX3_of 14 = .ok (.ishl, 1) := by decide +kernel
theorem dX3_of_15 : decode cX3_of 15 = .ok (.ior, 1) := by decide +kernel
theorem dX3_of_16 : decode cX3_of 16 = .ok (.iload_n 3, 1) := by decide +kernel
theorem dX3_of_17 : decode cX3_of 17 = .ok (.ior, 1) := by decide +kernel
theorem dX3_of_18 : decode cX3_of 18 = .ok (.isub, 1) := by decide +kernel
theorem dX3_of_19 : decode cX3_of 19 = .ok (.ireturn, 1) := by decide +kernel
theorem dX3_times_0 : decode cX3_times 0 = .ok (.iload_n 0, 1) := by decide +kernel
theorem dX3_times_1 : decode cX3_times 1 = .ok (.iload_n 1, 1) := by decide +kernel
theorem dX3_times_2 : decode cX3_times 2 = .ok (.iadd, 1) := by decide +kernel
theorem dX3_times_3 : decode cX3_times 3 = .ok (.ldc 13, 2) := by decide +kernel
theorem dX3_times_5 : decode cX3_times 5 = .ok (.isub, 1) := by decide +kernel
theorem dX3_times_6 : decode cX3_times 6 = .ok (.ireturn, 1) := by decide +kernel
theorem dX3_by_0 : decode cX3_by 0 = .ok (.iload_n 0, 1) := by decide +kernel
theorem dX3_by_1 : decode cX3_by 1 = .ok (.iload_n 1, 1) := by decide +kernel
theorem dX3_by_2 : decode cX3_by 2 = .ok (.isub, 1) := by decide +kernel
theorem dX3_by_3 : decode cX3_by 3 = .ok (.ldc 13, 2) := by decide +kernel
theorem dX3_by_5 : decode cX3_by 5 = .ok (.iadd, 1) := by decide +kernel
theorem dX3_by_6 : decode cX3_by 6 = .ok (.ireturn, 1) := by decide +kernel
theorem dX3_divides_0 : decode cX3_divides 0 = .ok (.iload_n 0, 1) := by decide +kernel
theorem dX3_divides_1 : decode cX3_divides 1 = .ok (.iconst 0, 1) := by decide +kernel
theorem dX3_divides_2 : decode cX3_divides 2 = .ok (.invokestatic 14, 3) := by decide +kernel
theorem dX3_divides_5 : decode cX3_divides 5 = .ok (.iload_n 1, 1) := by decide +kernel
theorem dX3_divides_6 : decode cX3_divides 6 = .ok (.iconst 0, 1) := by decide +kernel
theorem dX3_divides_7 : decode cX3_divides 7 = .ok (.invokestatic 14, 3) := by decide +kernel
theorem dX3_divides_10 : decode cX3_divides 10 = .ok (.if_icmp .gt 33, 3) := by decide +kernel
theorem dX3_divides_13 : decode cX3_divides 13 = .ok (.iload_n 0, 1) := by decide +kernel
theorem dX3_divides_14 : decode cX3_divides 14 = .ok (.iconst 1, 1) := by decide +kernel
theorem dX3_divides_15 : decode cX3_divides 15 = .ok (.invokestatic 14, 3) := by decide +kernel
theorem dX3_divides_18 : decode cX3_divides 18 = .ok (.iload_n 1, 1) := by decide +kernel
theorem dX3_divides_19 : decode cX3_divides 19 = .ok (.iconst 1, 1) := by decide +kernel
theorem dX3_divides_20 : decode cX3_divides 20 = .ok (.invokestatic 14, 3) := by decide +kernel
theorem dX3_divides_23 : decode cX3_divides 23 = .ok (.if_icmp .gt 20, 3) := by decide +kernel
theorem dX3_divides_26 : decode cX3_divides 26 = .ok (.iload_n 0, 1) := by decide +kernel
theorem dX3_divides_27 : decode cX3_divides 27 = .ok (.iconst 2, 1) := by decide +kernel
theorem dX3_divides_28 : decode cX3_divides 28 = .ok (.invokestatic 14, 3) := by decide +kernel
theorem dX3_divides_31 : decode cX3_divides 31 = .ok (.iload_n 1, 1) := by decide +kernel
theorem dX3_divides_32 : decode cX3_divides 32 = .ok (.iconst 2, 1) := by decide +kernel
theorem dX3_divides_33 : decode cX3_divides 33 = .ok (.invokestatic 14, 3) := by decide +kernel
theorem dX3_divides_36 : decode cX3_divides 36 = .ok (.if_icmp .gt 7, 3) := by decide +kernel
theorem dX3_divides_39 : decode cX3_divides 39 = .ok (.iconst 1, 1) := by decide +kernel
theorem dX3_divides_40 : decode cX3_divides 40 = .ok (.goto 4, 3) := by decide +kernel
theorem dX3_divides_43 : decode cX3_divides 43 = .ok (.iconst 0, 1) := by decide +kernel
theorem dX3_divides_44 : decode cX3_divides 44 = .ok (.ireturn, 1) := by decide +kernel
theorem dX3_isTooHigh_0 : decode cX3_isTooHigh 0 = .ok (.iload_n 0, 1) := by decide +kernel
theorem dX3_isTooHigh_1 : decode cX3_isTooHigh 1 = .ok (.iconst (-1), 1) := by decide +kernel
theorem dX3_isTooHigh_2 : decode cX3_isTooHigh 2 = .ok (.ixor, 1) := by decide +kernel
theorem dX3_isTooHigh_3 : decode cX3_isTooHigh 3 = .ok (.ldc 13, 2) := by decide +kernel
theorem dX3_isTooHigh_5 : decode cX3_isTooHigh 5 = .ok (.iand, 1) := by decide +kernel
theorem dX3_isTooHigh_6 : decode cX3_isTooHigh 6 = .ok (.sipush 4161, 3) := by decide +kernel
theorem dX3_isTooHigh_9 : decode cX3_isTooHigh 9 = .ok (.iadd, 1) := by decide +kernel
theorem dX3_isTooHigh_10 : decode cX3_isTooHigh 10 = .ok (.ldc 18, 2) := by decide +kernel
theorem dX3_isTooHigh_12 : decode cX3_isTooHigh 12 = .ok (.iand, 1) := by decide +kernel
theorem dX3_isTooHigh_13 : decode cX3_isTooHigh 13 = .ok (.ifCond .eq 7, 3) := by decide +kernel
theorem dX3_isTooHigh_16 : decode cX3_isTooHigh 16 = .ok (.iconst 1, 1) := by decide +kernel
theorem dX3_isTooHigh_17 : decode cX3_isTooHigh 17 = .ok (.goto 4, 3) := by decide +kernel
theorem dX3_isTooHigh_20 : decode cX3_isTooHigh 20 = .ok (.iconst 0, 1) := by decide +kernel
theorem dX3_isTooHigh_21 : decode cX3_isTooHigh 21 = .ok (.ireturn, 1) := by decide +kernel
end
section
theorem dX4_init_0 : decode cX4_init 0 = .ok (.aload_n 0, 1) := by decide +kernel
theorem dX4_init_1 : decode cX4_init 1 = .ok (.invokespecial 1, 3) := by decide +kernel
theorem dX4_init_4 : decode cX4_init 4 = .ok (.aload_n 0, 1) := by decide +kernel
theorem dX4_init_5 : decode cX4_init 5 = .ok (.iload_n 1, 1) := by decide +kernel
theorem dX4_init_6 : decode cX4_init 6 = .ok (.iconst 2, 1) := by decide +kernel
theorem dX4_init_7 : decode cX4_init 7 = .ok (.invokestatic 7, 3) := by decide +kernel
theorem dX4_init_10 : decode cX4_init 10 = .ok (.putfield 13, 3) := by decide +kernel
theorem dX4_init_13 : decode cX4_init 13 = .ok (.return_, 1) := by decide +kernel
theorem dX4_reduced_0 : decode cX4_reduced 0 = .ok (.iload_n 1, 1) := by decide +kernel
theorem dX4_reduced_1 : decode cX4_reduced 1 = .ok (.aload_n 0, 1) := by decide +kernel
theorem dX4_reduced_2 : decode cX4_reduced 2 = .ok (.getfield 13, 3) := by decide +kernel
theorem dX4_reduced_5 : decode cX4_reduced 5 = .ok (.irem, 1) := by decide +kernel
theorem dX4_reduced_6 : decode cX4_reduced 6 = .ok (.ireturn, 1) := by decide +kernel
theorem dX4_negative_0 : decode cX4_negative 0 = .ok (.iload_n 1, 1) := by decide +kernel
theorem dX4_negative_1 : decode cX4_negative 1 = .ok (.ifCond .ne 7, 3) := by decide +kernel
theorem dX4_negative_4 : decode cX4_negative 4 = .ok (.iconst 0, 1) := by decide +kernel
theorem dX4_negative_5 : decode cX4_negative 5 = .ok (.goto 9, 3) := by decide +kernel
theorem dX4_negative_8 : decode cX4_negative 8 = .ok (.aload_n 0, 1) := by decide +kernel
theorem dX4_negative_9 : decode cX4_negative 9 = .ok (.getfield 13, 3) := by decide +kernel
theorem dX4_negative_12 : decode cX4_negative 12 = .ok (.iload_n 1, 1) := by decide +kernel
theorem dX4_negative_13 : decode cX4_negative 13 = .ok (.isub, 1) := by decide +kernel
theorem dX4_negative_14 : decode cX4_negative 14 = .ok (.ireturn, 1) := by decide +kernel
theorem dX4_times_0 : decode cX4_times 0 = .ok (.iload_n 1, 1) := by decide +kernel
theorem dX4_times_1 : decode cX4_times 1 = .ok (.iload_n 2, 1) := by decide +kernel
theorem dX4_times_2 : decode cX4_times 2 = .ok (.imul, 1) := by decide +kernel
theorem dX4_times_3 : decode cX4_times 3 = .ok (.aload_n 0, 1) := by decide +kernel
theorem dX4_times_4 : decode cX4_times 4 = .ok (.getfield 13, 3) := by decide +kernel
theorem dX4_times_7 : decode cX4_times 7 = .ok (.irem, 1) := by decide +kernel
theorem dX4_times_8 : decode cX4_times 8 = .ok (.ireturn, 1) := by decide +kernel
theorem dX4_plusTimes_0 : decode cX4_plusTimes 0 = .ok (.iload_n 1, 1) := by decide +kernel
theorem dX4_plusTimes_1 : decode cX4_plusTimes 1 = .ok (.iload_n 2, 1) := by decide +kernel
theorem dX4_plusTimes_2 : decode cX4_plusTimes 2 = .ok (.iload_n 3, 1) := by decide +kernel
theorem dX4_plusTimes_3 : decode cX4_plusTimes 3 = .ok (.imul, 1) := by decide +kernel
theorem dX4_plusTimes_4 : decode cX4_plusTimes 4 = .ok (.iadd, 1) := by decide +kernel
theorem dX4_plusTimes_5 : decode cX4_plusTimes 5 = .ok (.aload_n 0, 1) := by decide +kernel
theorem dX4_plusTimes_6 : decode cX4_plusTimes 6 = .ok (.getfield 13, 3) := by decide +kernel
theorem dX4_plusTimes_9 : decode cX4_plusTimes 9 = .ok (.irem, 1) := by decide +kernel
theorem dX4_plusTimes_10 : decode cX4_plusTimes 10 = .ok (.ireturn, 1) := by decide +kernel
theorem dX4_inverse_0 : decode cX4_inverse 0 = .ok (.iconst 1, 1) := by decide +kernel
theorem dX4_inverse_1 : decode cX4_inverse 1 = .ok (.istore_n 2, 1) := by decide +kernel
theorem dX4_inverse_2 : decode cX4_inverse 2 = .ok (.iload_n 1, 1) := by decide +kernel
theorem dX4_inverse_3 : decode cX4_inverse 3 = .ok (.istore_n 3, 1) := by decide +kernel
theorem dX4_inverse_4 : decode cX4_inverse 4 = .ok (.aload_n 0, 1) := by decide +kernel
theorem dX4_inverse_5 : decode cX4_inverse 5 = .ok (.getfield 13, 3) := by decide +kernel
theorem dX4_inverse_8 : decode cX4_inverse 8 = .ok (.iconst 2, 1) := by decide +kernel
theorem dX4_inverse_9 : decode cX4_inverse 9 = .ok (.isub, 1) := by decide +kernel
theorem dX4_inverse_10 : decode cX4_inverse 10 = .ok (.istore 4, 2) := by decide +kernel
theorem dX4_inverse_12 : decode cX4_inverse 12 = .ok (.iload 4, 2) := by decide +kernel
theorem dX4_inverse_14 : decode cX4_inverse 14 = .ok (.ifCond .le 34, 3) := by decide +kernel
theorem dX4_inverse_17 : decode cX4_inverse 17 = .ok (.iload 4, 2) := by decide +kernel
theorem dX4_inverse_19 : decode cX4_inverse 19 = .ok (.iconst 1, 1) := by decide +kernel
theorem dX4_inverse_20 : decode cX4_inverse 20 = .ok (.iand, 1) := by decide +kernel
theorem dX4_inverse_21 : decode cX4_inverse 21 = .ok (.iconst 1, 1) := by decide +kernel
theorem dX4_inverse_22 : decode cX4_inverse 22 = .ok (.if_icmp .ne 10, 3) := by decide +kernel
theorem dX4_inverse_25 : decode cX4_inverse 25 = .ok (.aload_n 0, 1) := by decide +kernel
theorem dX4_inverse_26 : decode cX4_inverse 26 = .ok (.iload_n 2, 1) := by decide +kernel
theorem dX4_inverse_27 : decode cX4_inverse 27 = .ok (.iload_n 3, 1) := by decide +kernel
theorem dX4_inverse_28 : decode cX4_inverse 28 = .ok (.invokevirtual 19, 3) := by decide +kernel
theorem dX4_inverse_31 : decode cX4_inverse 31 = .ok (.istore_n 2, 1) := by decide +kernel
theorem dX4_inverse_32 : decode cX4_inverse 32 = .ok (.aload_n 0, 1) := by decide +kernel
theorem dX4_inverse_33 : decode cX4_inverse 33 = .ok (.iload_n 3, 1) := by decide +kernel
theorem dX4_inverse_34 : decode cX4_inverse 34 = .ok (.iload_n 3, 1) := by decide +kernel
theorem dX4_inverse_35 : decode cX4_inverse 35 = .ok (.invokevirtual 19, 3) := by decide +kernel
theorem dX4_inverse_38 : decode cX4_inverse 38 = .ok (.istore_n 3, 1) := by decide +kernel
theorem dX4_inverse_39 : decode cX4_inverse 39 = .ok (.iload 4, 2) := by decide +kernel
theorem dX4_inverse_41 : decode cX4_inverse 41 = .ok (.iconst 1, 1) := by decide +kernel
theorem dX4_inverse_42 : decode cX4_inverse 42 = .ok (.ishr, 1) := by decide +kernel
theorem dX4_inverse_43 : decode cX4_inverse 43 = .ok (.istore 4, 2) := by decide +kernel
theorem dX4_inverse_45 : decode cX4_inverse 45 = .ok (.goto (-33), 3) := by decide +kernel
theorem dX4_inverse_48 : decode cX4_inverse 48 = .ok (.iload_n 2, 1) := by decide +kernel
theorem dX4_inverse_49 : decode cX4_inverse 49 = .ok (.ireturn, 1) := by decide +kernel
end
section
theorem dX5_init_0 : decode cX5_init 0 = .ok (.aload_n 0, 1) := by decide +kernel
theorem dX5_init_1 : decode cX5_init 1 = .ok (.invokespecial 3, 3) := by decide +kernel
theorem dX5_init_4 : decode cX5_init 4 = .ok (.iload_n 1, 1) := by decide +kernel
theorem dX5_init_5 : decode cX5_init 5 = .ok (.iconst 0, 1) := by decide +kernel
theorem dX5_init_6 : decode cX5_init 6 = .ok (.invokestatic 9, 3) := by decide +kernel
theorem dX5_init_9 : decode cX5_init 9 = .ok (.istore_n 2, 1) := by decide +kernel
theorem dX5_init_10 : decode cX5_init 10 = .ok (.aload_n 0, 1) := by decide +kernel
theorem dX5_init_11 : decode cX5_init 11 = .ok (.iload_n 2, 1) := by decide +kernel
theorem dX5_init_12 : decode cX5_init 12 = .ok (.newarray .int, 2) := by decide +kernel
theorem dX5_init_14 : decode cX5_init 14 = .ok (.putfield 15, 3) := by decide +kernel
theorem dX5_init_17 : decode cX5_init 17 = .ok (.aload_n 0, 1) := by decide +kernel
theorem dX5_init_18 : decode cX5_init 18 = .ok (.iload_n 2, 1) := by decide +kernel
theorem dX5_init_19 : decode cX5_init 19 = .ok (.newarray .int, 2) := by decide +kernel
theorem dX5_init_21 : decode cX5_init 21 = .ok (.putfield 21, 3) := by decide +kernel
theorem dX5_init_24 : decode cX5_init 24 = .ok (.return_, 1) := by decide +kernel
theorem dX5_clear_0 : decode cX5_clear 0 = .ok (.aload_n 0, 1) := by decide +kernel
theorem dX5_clear_1 : decode cX5_clear 1 = .ok (.iconst 0, 1) := by decide +kernel
theorem dX5_clear_2 : decode cX5_clear 2 = .ok (.putfield 24, 3) := by decide +kernel
theorem dX5_clear_5 : decode cX5_clear 5 = .ok (.return_, 1) := by decide +kernel
theorem dX5_low_0 : decode cX5_low 0 = .ok (.aload_n 0, 1) := by decide +kernel
theorem dX5_low_1 : decode cX5_low 1 = .ok (.getfield 24, 3) := by decide +kernel
theorem dX5_low_4 : decode cX5_low 4 = .ok (.ifCond .le 15, 3) := by decide +kernel
theorem dX5_low_7 : decode cX5_low 7 = .ok (.aload_n 0, 1) := by decide +kernel
theorem dX5_low_8 : decode cX5_low 8 = .ok (.getfield 15, 3) := by decide +kernel
theorem dX5_low_11 : decode cX5_low 11 = .ok (.iconst 0, 1) := by decide +kernel
theorem dX5_low_12 : decode cX5_low 12 = .ok (.iaload, 1) := by decide +kernel
theorem dX5_low_13 : decode cX5_low 13 = .ok (.invokestatic 28, 3) := by decide +kernel
theorem dX5_low_16 : decode cX5_low 16 = .ok (.goto 4, 3) := by decide +kernel
theorem dX5_low_19 : decode cX5_low 19 = .ok (.iconst (-1), 1) := by decide +kernel
theorem dX5_low_20 : decode cX5_low 20 = .ok (.ireturn, 1) := by decide +kernel
theorem dX5_high_0 : decode cX5_high 0 = .ok (.aload_n 0, 1) := by decide +kernel
theorem dX5_high_1 : decode cX5_high 1 = .ok (.getfield 24, 3) := by decide +kernel
theorem dX5_high_4 : decode cX5_high 4 = .ok (.ifCond .le 20, 3) := by decide +kernel
theorem dX5_high_7 : decode cX5_high 7 = .ok (.aload_n 0, 1) := by decide +kernel
theorem dX5_high_8 : decode cX5_high 8 = .ok (.getfield 15, 3) := by decide +kernel
theorem dX5_high_11 : decode cX5_high 11 = .ok (.aload_n 0, 1) := by decide +kernel
theorem dX5_high_12 : decode cX5_high 12 = .ok (.getfield 24, 3) := by decide +kernel
theorem dX5_high_15 : decode cX5_high 15 = .ok (.iconst 1, 1) := by decide +kernel
theorem dX5_high_16 : decode cX5_high 16 = .ok (.isub, 1) := by decide +kernel
theorem dX5_high_17 : decode cX5_high 17 = .ok (.iaload, 1) := by decide +kernel
theorem dX5_high_18 : decode cX5_high 18 = .ok (.invokestatic 28, 3) := by decide +kernel
theorem dX5_high_21 : decode cX5_high 21 = .ok (.goto 4, 3) := by decide +kernel
theorem dX5_high_24 : decode cX5_high 24 = .ok (.iconst (-1), 1) := by decide +kernel
theorem dX5_high_25 : decode cX5_high 25 = .ok (.ireturn, 1) := by decide +kernel
theorem dX5_ecart_0 : decode cX5_ecart 0 = .ok (.aload_n 0, 1) := by decide +kernel
theorem dX5_ecart_1 : decode cX5_ecart 1 = .ok (.getfield 24, 3) := by decide +kernel
theorem dX5_ecart_4 : decode cX5_ecart 4 = .ok (.ifCond .le 15, 3) := by decide +kernel
theorem dX5_ecart_7 : decode cX5_ecart 7 = .ok (.aload_n 0, 1) := by decide +kernel
theorem dX5_ecart_8 : decode cX5_ecart 8 = .ok (.invokevirtual 34, 3) := by decide +kernel
theorem dX5_ecart_11 : decode cX5_ecart 11 = .ok (.aload_n 0, 1) := by decide +kernel
theorem dX5_ecart_12 : decode cX5_ecart 12 = .ok (.invokevirtual 38, 3) := by decide +kernel
theorem dX5_ecart_15 : decode cX5_ecart 15 = .ok (.isub, 1) := by decide +kernel
theorem dX5_ecart_16 : decode cX5_ecart 16 = .ok (.goto 4, 3) := by decide +kernel
theorem dX5_ecart_19 : decode cX5_ecart 19 = .ok (.iconst (-1), 1) := by decide +kernel
theorem dX5_ecart_20 : decode cX5_ecart 20 = .ok (.ireturn, 1) := by decide +kernel
theorem dX5_append_0 : decode cX5_append 0 = .ok (.aload_n 0, 1) := by decide +kernel
theorem dX5_append_1 : decode cX5_append 1 = .ok (.getfield 24, 3) := by decide +kernel
theorem dX5_append_4 : decode cX5_append 4 = .ok (.aload_n 0, 1) := by decide +kernel
theorem dX5_append_5 : decode cX5_append 5 = .ok (.getfield 15, 3) := by decide +kernel
theorem dX5_append_8 : decode cX5_append 8 = .ok (.arraylength, 1) := by decide +kernel
theorem dX5_append_9 : decode cX5_append 9 = .ok (.if_icmp .ge 10, 3) := by decide +kernel
theorem dX5_append_12 : decode cX5_append 12 = .ok (.iload_n 1, 1) := by decide +kernel
theorem dX5_append_13 : decode cX5_append 13 = .ok (.invokestatic 41, 3) := by decide +kernel
theorem dX5_append_16 : decode cX5_append 16 = .ok (.ifCond .eq 5, 3) := by decide +kernel
theorem dX5_append_19 : decode cX5_append 19 = .ok (.iconst 0, 1) := by decide +kernel
theorem dX5_append_20 : decode cX5_append 20 = .ok (.ireturn, 1) := by decide +kernel
theorem dX5_append_21 : decode cX5_append 21 = .ok (.aload_n 0, 1) := by decide +kernel
theorem dX5_append_22 : decode cX5_append 22 = .ok (.getfield 15, 3) := by decide +kernel
theorem dX5_append_25 : decode cX5_append 25 = .ok (.aload_n 0, 1) := by decide +kernel
theorem dX5_append_26 : decode cX5_append 26 = .ok (.getfield 24, 3) := by decide +kernel
theorem dX5_append_29 : decode cX5_append 29 = .ok (.iload_n 1, 1) := by decide +kernel
theorem dX5_append_30 : decode cX5_append 30 = .ok (.iastore, 1) := by decide +kernel
theorem dX5_append_31 : decode cX5_append 31 = .ok (.aload_n 0, 1) := by decide +kernel
theorem dX5_append_32 : decode cX5_append 32 = .ok (.getfield 21, 3) := by decide +kernel
theorem dX5_append_35 : decode cX5_append 35 = .ok (.aload_n 0, 1) := by decide +kernel
theorem dX5_append_36 : decode cX5_append 36 = .ok (.getfield 24, 3) := by decide +kernel
theorem dX5_append_39 : decode cX5_append 39 = .ok (.iload_n 2, 1) := by decide +kernel
theorem dX5_append_40 : decode cX5_append 40 = .ok (.iastore, 1) := by decide +kernel
theorem dX5_append_41 : decode cX5_append 41 = .ok (.aload_n 0, 1) := by decide +kernel
theorem dX5_append_42 : decode cX5_append 42 = .ok (.dup, 1) := by decide +kernel
theorem dX5_append_43 : decode cX5_append 43 = .ok (.getfield 24, 3) := by decide +kernel
theorem dX5_append_46 : decode cX5_append 46 = .ok (.iconst 1, 1) := by decide +kernel
theorem dX5_append_47 : decode cX5_append 47 = .ok (.iadd, 1) := by decide +kernel
theorem dX5_append_48 : decode cX5_append 48 = .ok (.putfield 24, 3) := by decide +kernel
theorem dX5_append_51 : decode cX5_append 51 = .ok (.iconst 1, 1) := by decide +kernel
theorem dX5_append_52 : decode cX5_append 52 = .ok (.ireturn, 1) := by decide +kernel
theorem dX5_become_0 : decode cX5_become 0 = .ok (.aload_n 0, 1) := by decide +kernel
theorem dX5_become_1 : decode cX5_become 1 = .ok (.aload_n 1, 1) := by decide +kernel
theorem dX5_become_2 : decode cX5_become 2 = .ok (.getfield 24, 3) := by decide +kernel
theorem dX5_become_5 : decode cX5_become 5 = .ok (.aload_n 0, 1) := by decide +kernel
theorem dX5_become_6 : decode cX5_become 6 = .ok (.getfield 15, 3) := by decide +kernel
theorem dX5_become_9 : decode cX5_become 9 = .ok (.arraylength, 1) := by decide +kernel
theorem dX5_become_10 : decode cX5_become 10 = .ok (.invokestatic 45, 3) := by decide +kernel
theorem dX5_become_13 : decode cX5_become 13 = .ok (.putfield 24, 3) := by decide +kernel
theorem dX5_become_16 : decode cX5_become 16 = .ok (.aload_n 1, 1) := by decide +kernel
theorem dX5_become_17 : decode cX5_become 17 = .ok (.getfield 15, 3) := by decide +kernel
theorem dX5_become_20 : decode cX5_become 20 = .ok (.iconst 0, 1) := by decide +kernel
theorem dX5_become_21 : decode cX5_become 21 = .ok (.aload_n 0, 1) := by decide +kernel
theorem dX5_become_22 : decode cX5_become 22 = .ok (.getfield 15, 3) := by decide +kernel
theorem dX5_become_25 : decode cX5_become 25 = .ok (.iconst 0, 1) := by decide +kernel
theorem dX5_become_26 : decode cX5_become 26 = .ok (.aload_n 0, 1) := by decide +kernel
theorem dX5_become_27 : decode cX5_become 27 = .ok (.getfield 24, 3) := by decide +kernel
theorem dX5_become_30 : decode cX5_become 30 = .ok (.invokestatic 48, 3) := by decide +kernel
theorem dX5_become_33 : decode cX5_become 33 = .ok (.aload_n 1, 1) := by decide +kernel
theorem dX5_become_34 : decode cX5_become 34 = .ok (.getfield 21, 3) := by decide +kernel
theorem dX5_become_37 : decode cX5_become 37 = .ok (.iconst 0, 1) := by decide +kernel
theorem dX5_become_38 : decode cX5_become 38 = .ok (.aload_n 0, 1) := by decide +kernel
theorem dX5_become_39 : decode cX5_become 39 = .ok (.getfield 21, 3) := by decide +kernel
theorem dX5_become_42 : decode cX5_become 42 = .ok (.iconst 0, 1) := by decide +kernel
theorem dX5_become_43 : decode cX5_become 43 = .ok (.aload_n 0, 1) := by decide +kernel
theorem dX5_become_44 : decode cX5_become 44 = .ok (.getfield 24, 3) := by decide +kernel
theorem dX5_become_47 : decode cX5_become 47 = .ok (.invokestatic 48, 3) := by decide +kernel
theorem dX5_become_50 : decode cX5_become 50 = .ok (.return_, 1) := by decide +kernel
theorem dX5_becomeNumber_0 : decode cX5_becomeNumber 0 = .ok (.aload_n 0, 1) := by decide +kernel
theorem dX5_becomeNumber_1 : decode cX5_becomeNumber 1 = .ok (.iconst 0, 1) := by decide +kernel
theorem dX5_becomeNumber_2 : decode cX5_becomeNumber 2 = .ok (.putfield 24, 3) := by decide +kernel
theorem dX5_becomeNumber_5 : decode cX5_becomeNumber 5 = .ok (.aload_n 0, 1) := by decide +kernel
theorem dX5_becomeNumber_6 : decode cX5_becomeNumber 6 = .ok (.ldc 54, 2) := by decide +kernel
theorem dX5_becomeNumber_8 : decode cX5_becomeNumber 8 = .ok (.iload_n 1, 1) := by decide +kernel
theorem dX5_becomeNumber_9 : decode cX5_becomeNumber 9 = .ok (.invokevirtual 55, 3) := by decide +kernel
theorem dX5_becomeNumber_12 : decode cX5_becomeNumber 12 = .ok (.pop, 1) := by decide +kernel
theorem dX5_becomeNumber_13 : decode cX5_becomeNumber 13 = .ok (.return_, 1) := by decide +kernel
theorem dX5_mix_0 : decode cX5_mix 0 = .ok (.aload_n 0, 1) := by decide +kernel
theorem dX5_mix_1 : decode cX5_mix 1 = .ok (.iconst 0, 1) := by decide +kernel
theorem dX5_mix_2 : decode cX5_mix 2 = .ok (.putfield 24, 3) := by decide +kernel
theorem dX5_mix_5 : decode cX5_mix 5 = .ok (.iconst 0, 1) := by decide +kernel
theorem dX5_mix_6 : decode cX5_mix 6 = .ok (.istore 6, 2) := by decide +kernel
theorem dX5_mix_8 : decode cX5_mix 8 = .ok (.iconst 0, 1) := by decide +kernel
theorem dX5_mix_9 : decode cX5_mix 9 = .ok (.istore 7, 2) := by decide +kernel
theorem dX5_mix_11 : decode cX5_mix 11 = .ok (.aload_n 1, 1) := by decide +kernel
theorem dX5_mix_12 : decode cX5_mix 12 = .ok (.getfield 24, 3) := by decide +kernel
theorem dX5_mix_15 : decode cX5_mix 15 = .ok (.aload 4, 2) := by decide +kernel
theorem dX5_mix_17 : decode cX5_mix 17 = .ok (.getfield 24, 3) := by decide +kernel
theorem dX5_mix_20 : decode cX5_mix 20 = .ok (.iadd, 1) := by decide +kernel
theorem dX5_mix_21 : decode cX5_mix 21 = .ok (.istore 8, 2) := by decide +kernel
theorem dX5_mix_23 : decode cX5_mix 23 = .ok (.iload 8, 2) := by decide +kernel
theorem dX5_mix_25 : decode cX5_mix 25 = .ok (.ifCond .le 172, 3) := by decide +kernel
theorem dX5_mix_28 : decode cX5_mix 28 = .ok (.iload 6, 2) := by decide +kernel
theorem dX5_mix_30 : decode cX5_mix 30 = .ok (.aload_n 1, 1) := by decide +kernel
theorem dX5_mix_31 : decode cX5_mix 31 = .ok (.getfield 24, 3) := by decide +kernel
theorem dX5_mix_34 : decode cX5_mix 34 = .ok (.if_icmp .lt 13, 3) := by decide +kernel
theorem dX5_mix_37 : decode cX5_mix 37 = .ok (.iload 7, 2) := by decide +kernel
theorem dX5_mix_39 : decode cX5_mix 39 = .ok (.aload 4, 2) := by decide +kernel
theorem dX5_mix_41 : decode cX5_mix 41 = .ok (.getfield 24, 3) := by decide +kernel
theorem dX5_mix_44 : decode cX5_mix 44 = .ok (.if_icmp .ge 153, 3) := by decide +kernel
theorem dX5_mix_47 : decode cX5_mix 47 = .ok (.iload 6, 2) := by decide +kernel
theorem dX5_mix_49 : decode cX5_mix 49 = .ok (.aload_n 1, 1) := by decide +kernel
theorem dX5_mix_50 : decode cX5_mix 50 = .ok (.getfield 24, 3) := by decide +kernel
theorem dX5_mix_53 : decode cX5_mix 53 = .ok (.if_icmp .ge 13, 3) := by decide +kernel
theorem dX5_mix_56 : decode cX5_mix 56 = .ok (.aload_n 1, 1) := by decide +kernel
theorem dX5_mix_57 : decode cX5_mix 57 = .ok (.getfield 15, 3) := by decide +kernel
theorem dX5_mix_60 : decode cX5_mix 60 = .ok (.iload 6, 2) := by decide +kernel
theorem dX5_mix_62 : decode cX5_mix 62 = .ok (.iaload, 1) := by decide +kernel
theorem dX5_mix_63 : decode cX5_mix 63 = .ok (.goto 5, 3) := by decide +kernel
theorem dX5_mix_66 : decode cX5_mix 66 = .ok (.ldc 79, 2) := by decide +kernel
theorem dX5_mix_68 : decode cX5_mix 68 = .ok (.istore 9, 2) := by decide +kernel
theorem dX5_mix_70 : decode cX5_mix 70 = .ok (.iload 7, 2) := by decide +kernel
theorem dX5_mix_72 : decode cX5_mix 72 = .ok (.aload 4, 2) := by decide +kernel
theorem dX5_mix_74 : decode cX5_mix 74 = .ok (.getfield 24, 3) := by decide +kernel
theorem dX5_mix_77 : decode cX5_mix 77 = .ok (.if_icmp .ge 18, 3) := by decide +kernel
theorem dX5_mix_80 : decode cX5_mix 80 = .ok (.aload 4, 2) := by decide +kernel
theorem dX5_mix_82 : decode cX5_mix 82 = .ok (.getfield 15, 3) := by decide +kernel
theorem dX5_mix_85 : decode cX5_mix 85 = .ok (.iload 7, 2) := by decide +kernel
theorem dX5_mix_87 : decode cX5_mix 87 = .ok (.iaload, 1) := by decide +kernel
theorem dX5_mix_88 : decode cX5_mix 88 = .ok (.iload_n 3, 1) := by decide +kernel
theorem dX5_mix_89 : decode cX5_mix 89 = .ok (.invokestatic 80, 3) := by decide +kernel
theorem dX5_mix_92 : decode cX5_mix 92 = .ok (.goto 5, 3) := by decide +kernel
theorem dX5_mix_95 : decode cX5_mix 95 = .ok (.ldc 79, 2) := by decide +kernel
theorem dX5_mix_97 : decode cX5_mix 97 = .ok (.istore 10, 2) := by decide +kernel
theorem dX5_mix_99 : decode cX5_mix 99 = .ok (.iconst 0, 1) := by decide +kernel
theorem dX5_mix_100 : decode cX5_mix 100 = .ok (.istore 11, 2) := by decide +kernel
theorem dX5_mix_102 : decode cX5_mix 102 = .ok (.iload 9, 2) := by decide +kernel
theorem dX5_mix_104 : decode cX5_mix 104 = .ok (.iload 10, 2) := by decide +kernel
theorem dX5_mix_106 : decode cX5_mix 106 = .ok (.if_icmp .gt 24, 3) := by decide +kernel
theorem dX5_mix_109 : decode cX5_mix 109 = .ok (.iload 6, 2) := by decide +kernel
theorem dX5_mix_111 : decode cX5_mix 111 = .ok (.aload_n 1, 1) := by decide +kernel
theorem dX5_mix_112 : decode cX5_mix 112 = .ok (.getfield 24, 3) := by decide +kernel
theorem dX5_mix_115 : decode cX5_mix 115 = .ok (.if_icmp .ge 15, 3) := by decide +kernel
theorem dX5_mix_118 : decode cX5_mix 118 = .ok (.aload_n 1, 1) := by decide +kernel
theorem dX5_mix_119 : decode cX5_mix 119 = .ok (.getfield 21, 3) := by decide +kernel
theorem dX5_mix_122 : decode cX5_mix 122 = .ok (.iload 6, 2) := by decide +kernel
theorem dX5_mix_124 : decode cX5_mix 124 = .ok (.iaload, 1) := by decide +kernel
theorem dX5_mix_125 : decode cX5_mix 125 = .ok (.istore 11, 2) := by decide +kernel
theorem dX5_mix_127 : decode cX5_mix 127 = .ok (.iinc 6 1, 3) := by decide +kernel
theorem dX5_mix_130 : decode cX5_mix 130 = .ok (.iload 10, 2) := by decide +kernel
theorem dX5_mix_132 : decode cX5_mix 132 = .ok (.iload 9, 2) := by decide +kernel
theorem dX5_mix_134 : decode cX5_mix 134 = .ok (.if_icmp .gt 34, 3) := by decide +kernel
theorem dX5_mix_137 : decode cX5_mix 137 = .ok (.iload 7, 2) := by decide +kernel
theorem dX5_mix_139 : decode cX5_mix 139 = .ok (.aload 4, 2) := by decide +kernel
theorem dX5_mix_141 : decode cX5_mix 141 = .ok (.getfield 24, 3) := by decide +kernel
theorem dX5_mix_144 : decode cX5_mix 144 = .ok (.if_icmp .ge 24, 3) := by decide +kernel
theorem dX5_mix_147 : decode cX5_mix 147 = .ok (.aload 5, 2) := by decide +kernel
theorem dX5_mix_149 : decode cX5_mix 149 = .ok (.iload 11, 2) := by decide +kernel
theorem dX5_mix_151 : decode cX5_mix 151 = .ok (.iload_n 2, 1) := by decide +kernel
theorem dX5_mix_152 : decode cX5_mix 152 = .ok (.aload 4, 2) := by decide +kernel
theorem dX5_mix_154 : decode cX5_mix 154 = .ok (.getfield 21, 3) := by decide +kernel
theorem dX5_mix_157 : decode cX5_mix 157 = .ok (.iload 7, 2) := by decide +kernel
theorem dX5_mix_159 : decode cX5_mix 159 = .ok (.iaload, 1) := by decide +kernel
theorem dX5_mix_160 : decode cX5_mix 160 = .ok (.invokevirtual 81, 3) := by decide +kernel
theorem dX5_mix_163 : decode cX5_mix 163 = .ok (.istore 11, 2) := by decide +kernel
theorem dX5_mix_165 : decode cX5_mix 165 = .ok (.iinc 7 1, 3) := by decide +kernel
theorem dX5_mix_168 : decode cX5_mix 168 = .ok (.iload 11, 2) := by decide +kernel
theorem dX5_mix_170 : decode cX5_mix 170 = .ok (.ifCond .eq 21, 3) := by decide +kernel
theorem dX5_mix_173 : decode cX5_mix 173 = .ok (.aload_n 0, 1) := by decide +kernel
theorem dX5_mix_174 : decode cX5_mix 174 = .ok (.iload 9, 2) := by decide +kernel
theorem dX5_mix_176 : decode cX5_mix 176 = .ok (.iload 10, 2) := by decide +kernel
theorem dX5_mix_178 : decode cX5_mix 178 = .ok (.invokestatic 45, 3) := by decide +kernel
theorem dX5_mix_181 : decode cX5_mix 181 = .ok (.iload 11, 2) := by decide +kernel
theorem dX5_mix_183 : decode cX5_mix 183 = .ok (.invokevirtual 55, 3) := by decide +kernel
theorem dX5_mix_186 : decode cX5_mix 186 = .ok (.ifCond .ne 5, 3) := by decide +kernel
theorem dX5_mix_189 : decode cX5_mix 189 = .ok (.iconst 0, 1) := by decide +kernel
theorem dX5_mix_190 : decode cX5_mix 190 = .ok (.ireturn, 1) := by decide +kernel
theorem dX5_mix_191 : decode cX5_mix 191 = .ok (.iinc 8 (-1), 3) := by decide +kernel
theorem dX5_mix_194 : decode cX5_mix 194 = .ok (.goto (-171), 3) := by decide +kernel
theorem dX5_mix_197 : decode cX5_mix 197 = .ok (.iconst 1, 1) := by decide +kernel
theorem dX5_mix_198 : decode cX5_mix 198 = .ok (.ireturn, 1) := by decide +kernel
theorem dX5_add_0 : decode cX5_add 0 = .ok (.iconst 0, 1) := by decide +kernel
theorem dX5_add_1 : decode cX5_add 1 = .ok (.istore 4, 2) := by decide +kernel
theorem dX5_add_3 : decode cX5_add 3 = .ok (.iload 4, 2) := by decide +kernel
theorem dX5_add_5 : decode cX5_add 5 = .ok (.aload_n 0, 1) := by decide +kernel
theorem dX5_add_6 : decode cX5_add 6 = .ok (.getfield 24, 3) := by decide +kernel
theorem dX5_add_9 : decode cX5_add 9 = .ok (.if_icmp .ge 20, 3) := by decide +kernel
theorem dX5_add_12 : decode cX5_add 12 = .ok (.aload_n 0, 1) := by decide +kernel
theorem dX5_add_13 : decode cX5_add 13 = .ok (.getfield 15, 3) := by decide +kernel
theorem dX5_add_16 : decode cX5_add 16 = .ok (.iload 4, 2) := by decide +kernel
theorem dX5_add_18 : decode cX5_add 18 = .ok (.iaload, 1) := by decide +kernel
theorem dX5_add_19 : decode cX5_add 19 = .ok (.iload_n 1, 1) := by decide +kernel
theorem dX5_add_20 : decode cX5_add 20 = .ok (.if_icmp .ge 9, 3) := by decide +kernel
theorem dX5_add_23 : decode cX5_add 23 = .ok (.iinc 4 1, 3) := by decide +kernel
theorem dX5_add_26 : decode cX5_add 26 = .ok (.goto (-23), 3) := by decide +kernel
theorem dX5_add_29 : decode cX5_add 29 = .ok (.iload 4, 2) := by decide +kernel
theorem dX5_add_31 : decode cX5_add 31 = .ok (.aload_n 0, 1) := by decide +kernel
theorem dX5_add_32 : decode cX5_add 32 = .ok (.getfield 24, 3) := by decide +kernel
theorem dX5_add_35 : decode cX5_add 35 = .ok (.if_icmp .ge 37, 3) := by decide +kernel
theorem dX5_add_38 : decode cX5_add 38 = .ok (.aload_n 0, 1) := by decide +kernel
theorem dX5_add_39 : decode cX5_add 39 = .ok (.getfield 15, 3) := by decide +kernel
theorem dX5_add_42 : decode cX5_add 42 = .ok (.iload 4, 2) := by decide +kernel
theorem dX5_add_44 : decode cX5_add 44 = .ok (.iaload, 1) := by decide +kernel
theorem dX5_add_45 : decode cX5_add 45 = .ok (.iload_n 1, 1) := by decide +kernel
theorem dX5_add_46 : decode cX5_add 46 = .ok (.if_icmp .ne 26, 3) := by decide +kernel
theorem dX5_add_49 : decode cX5_add 49 = .ok (.aload_n 0, 1) := by decide +kernel
theorem dX5_add_50 : decode cX5_add 50 = .ok (.getfield 21, 3) := by decide +kernel
theorem dX5_add_53 : decode cX5_add 53 = .ok (.iload 4, 2) := by decide +kernel
theorem dX5_add_55 : decode cX5_add 55 = .ok (.aload_n 3, 1) := by decide +kernel
theorem dX5_add_56 : decode cX5_add 56 = .ok (.aload_n 0, 1) := by decide +kernel
theorem dX5_add_57 : decode cX5_add 57 = .ok (.getfield 21, 3) := by decide +kernel
theorem dX5_add_60 : decode cX5_add 60 = .ok (.iload 4, 2) := by decide +kernel
theorem dX5_add_62 : decode cX5_add 62 = .ok (.iaload, 1) := by decide +kernel
theorem dX5_add_63 : decode cX5_add 63 = .ok (.iconst 1, 1) := by decide +kernel
theorem dX5_add_64 : decode cX5_add 64 = .ok (.iload_n 2, 1) := by decide +kernel
theorem dX5_add_65 : decode cX5_add 65 = .ok (.invokevirtual 81, 3) := by decide +kernel
theorem dX5_add_68 : decode cX5_add 68 = .ok (.iastore, 1) := by decide +kernel
theorem dX5_add_69 : decode cX5_add 69 = .ok (.goto 11, 3) := by decide +kernel
theorem dX5_add_72 : decode cX5_add 72 = .ok (.aload_n 0, 1) := by decide +kernel
theorem dX5_add_73 : decode cX5_add 73 = .ok (.iload 4, 2) := by decide +kernel
theorem dX5_add_75 : decode cX5_add 75 = .ok (.iload_n 1, 1) := by decide +kernel
theorem dX5_add_76 : decode cX5_add 76 = .ok (.iload_n 2, 1) := by decide +kernel
theorem dX5_add_77 : decode cX5_add 77 = .ok (.invokevirtual 85, 3) := by decide +kernel
theorem dX5_add_80 : decode cX5_add 80 = .ok (.return_, 1) := by decide +kernel
theorem dX5_dropZeros_0 : decode cX5_dropZeros 0 = .ok (.iconst 0, 1) := by decide +kernel
theorem dX5_dropZeros_1 : decode cX5_dropZeros 1 = .ok (.istore_n 1, 1) := by decide +kernel
theorem dX5_dropZeros_2 : decode cX5_dropZeros 2 = .ok (.iconst 0, 1) := by decide +kernel
theorem dX5_dropZeros_3 : decode cX5_dropZeros 3 = .ok (.istore_n 2, 1) := by decide +kernel
theorem dX5_dropZeros_4 : decode cX5_dropZeros 4 = .ok (.iload_n 2, 1) := by decide +kernel
theorem dX5_dropZeros_5 : decode cX5_dropZeros 5 = .ok (.aload_n 0, 1) := by decide +kernel
theorem dX5_dropZeros_6 : decode cX5_dropZeros 6 = .ok (.getfield 24, 3) := by decide +kernel
theorem dX5_dropZeros_9 : decode cX5_dropZeros 9 = .ok (.if_icmp .ge 45, 3) := by decide +kernel
theorem dX5_dropZeros_12 : decode cX5_dropZeros 12 = .ok (.aload_n 0, 1) := by decide +kernel
theorem dX5_dropZeros_13 : decode cX5_dropZeros 13 = .ok (.getfield 21, 3) := by decide +kernel
theorem dX5_dropZeros_16 : decode cX5_dropZeros 16 = .ok (.iload_n 2, 1) := by decide +kernel
theorem dX5_dropZeros_17 : decode cX5_dropZeros 17 = .ok (.iaload, 1) := by decide +kernel
theorem dX5_dropZeros_18 : decode cX5_dropZeros 18 = .ok (.ifCond .eq 30, 3) := by decide +kernel
theorem dX5_dropZeros_21 : decode cX5_dropZeros 21 = .ok (.aload_n 0, 1) := by decide +kernel
theorem dX5_dropZeros_22 : decode cX5_dropZeros 22 = .ok (.getfield 15, 3) := by decide +kernel
theorem dX5_dropZeros_25 : decode cX5_dropZeros 25 = .ok (.iload_n 1, 1) := by decide +kernel
theorem dX5_dropZeros_26 : decode cX5_dropZeros 26 = .ok (.aload_n 0, 1) := by decide +kernel
theorem dX5_dropZeros_27 : decode cX5_dropZeros 27 = .ok (.getfield 15, 3) := by decide +kernel
theorem dX5_dropZeros_30 : decode cX5_dropZeros 30 = .ok (.iload_n 2, 1) := by decide +kernel
theorem dX5_dropZeros_31 : decode cX5_dropZeros 31 = .ok (.iaload, 1) := by decide +kernel
theorem dX5_dropZeros_32 : decode cX5_dropZeros 32 = .ok (.iastore, 1) := by decide +kernel
theorem dX5_dropZeros_33 : decode cX5_dropZeros 33 = .ok (.aload_n 0, 1) := by decide +kernel
theorem dX5_dropZeros_34 : decode cX5_dropZeros 34 = .ok (.getfield 21, 3) := by decide +kernel
theorem dX5_dropZeros_37 : decode cX5_dropZeros 37 = .ok (.iload_n 1, 1) := by decide +kernel
theorem dX5_dropZeros_38 : decode cX5_dropZeros 38 = .ok (.aload_n 0, 1) := by decide +kernel
theorem dX5_dropZeros_39 : decode cX5_dropZeros 39 = .ok (.getfield 21, 3) := by decide +kernel
theorem dX5_dropZeros_42 : decode cX5_dropZeros 42 = .ok (.iload_n 2, 1) := by decide +kernel
theorem dX5_dropZeros_43 : decode cX5_dropZeros 43 = .ok (.iaload, 1) := by decide +kernel
theorem dX5_dropZeros_44 : decode cX5_dropZeros 44 = .ok (.iastore, 1) := by decide +kernel
theorem dX5_dropZeros_45 : decode cX5_dropZeros 45 = .ok (.iinc 1 1, 3) := by decide +kernel
theorem dX5_dropZeros_48 : decode cX5_dropZeros 48 = .ok (.iinc 2 1, 3) := by decide +kernel
theorem dX5_dropZeros_51 : decode cX5_dropZeros 51 = .ok (.goto (-47), 3) := by decide +kernel
theorem dX5_dropZeros_54 : decode cX5_dropZeros 54 = .ok (.aload_n 0, 1) := by decide +kernel
theorem dX5_dropZeros_55 : decode cX5_dropZeros 55 = .ok (.iload_n 1, 1) := by decide +kernel
theorem dX5_dropZeros_56 : decode cX5_dropZeros 56 = .ok (.putfield 24, 3) := by decide +kernel
theorem dX5_dropZeros_59 : decode cX5_dropZeros 59 = .ok (.return_, 1) := by decide +kernel
theorem dX5_reorder_0 : decode cX5_reorder 0 = .ok (.aload_n 0, 1) := by decide +kernel
theorem dX5_reorder_1 : decode cX5_reorder 1 = .ok (.getfield 24, 3) := by decide +kernel
theorem dX5_reorder_4 : decode cX5_reorder 4 = .ok (.istore_n 2, 1) := by decide +kernel
theorem dX5_reorder_5 : decode cX5_reorder 5 = .ok (.aload_n 0, 1) := by decide +kernel
theorem dX5_reorder_6 : decode cX5_reorder 6 = .ok (.iconst 0, 1) := by decide +kernel
theorem dX5_reorder_7 : decode cX5_reorder 7 = .ok (.putfield 24, 3) := by decide +kernel
theorem dX5_reorder_10 : decode cX5_reorder 10 = .ok (.iconst 0, 1) := by decide +kernel
theorem dX5_reorder_11 : decode cX5_reorder 11 = .ok (.istore_n 3, 1) := by decide +kernel
theorem dX5_reorder_12 : decode cX5_reorder 12 = .ok (.iload_n 3, 1) := by decide +kernel
theorem dX5_reorder_13 : decode cX5_reorder 13 = .ok (.iload_n 2, 1) := by decide +kernel
theorem dX5_reorder_14 : decode cX5_reorder 14 = .ok (.if_icmp .ge 65, 3) := by decide +kernel
theorem dX5_reorder_17 : decode cX5_reorder 17 = .ok (.aload_n 0, 1) := by decide +kernel
theorem dX5_reorder_18 : decode cX5_reorder 18 = .ok (.getfield 15, 3) := by decide +kernel
theorem dX5_reorder_21 : decode cX5_reorder 21 = .ok (.iload_n 3, 1) := by decide +kernel
theorem dX5_reorder_22 : decode cX5_reorder 22 = .ok (.iaload, 1) := by decide +kernel
theorem dX5_reorder_23 : decode cX5_reorder 23 = .ok (.istore 4, 2) := by decide +kernel
theorem dX5_reorder_25 : decode cX5_reorder 25 = .ok (.iload 4, 2) := by decide +kernel
theorem dX5_reorder_27 : decode cX5_reorder 27 = .ok (.iconst 0, 1) := by decide +kernel
theorem dX5_reorder_28 : decode cX5_reorder 28 = .ok (.invokestatic 68, 3) := by decide +kernel
theorem dX5_reorder_31 : decode cX5_reorder 31 = .ok (.istore 5, 2) := by decide +kernel
theorem dX5_reorder_33 : decode cX5_reorder 33 = .ok (.iload 4, 2) := by decide +kernel
theorem dX5_reorder_35 : decode cX5_reorder 35 = .ok (.iconst 1, 1) := by decide +kernel
theorem dX5_reorder_36 : decode cX5_reorder 36 = .ok (.invokestatic 68, 3) := by decide +kernel
theorem dX5_reorder_39 : decode cX5_reorder 39 = .ok (.istore 6, 2) := by decide +kernel
theorem dX5_reorder_41 : decode cX5_reorder 41 = .ok (.iload 4, 2) := by decide +kernel
theorem dX5_reorder_43 : decode cX5_reorder 43 = .ok (.iconst 2, 1) := by decide +kernel
theorem dX5_reorder_44 : decode cX5_reorder 44 = .ok (.invokestatic 68, 3) := by decide +kernel
theorem dX5_reorder_47 : decode cX5_reorder 47 = .ok (.istore 7, 2) := by decide +kernel
theorem dX5_reorder_49 : decode cX5_reorder 49 = .ok (.aload_n 0, 1) := by decide +kernel
theorem dX5_reorder_50 : decode cX5_reorder 50 = .ok (.aload_n 1, 1) := by decide +kernel
theorem dX5_reorder_51 : decode cX5_reorder 51 = .ok (.iload 5, 2) := by decide +kernel
theorem dX5_reorder_53 : decode cX5_reorder 53 = .ok (.iload 6, 2) := by decide +kernel
theorem dX5_reorder_55 : decode cX5_reorder 55 = .ok (.iload 7, 2) := by decide +kernel
theorem dX5_reorder_57 : decode cX5_reorder 57 = .ok (.invokevirtual 89, 3) := by decide +kernel
theorem dX5_reorder_60 : decode cX5_reorder 60 = .ok (.aload_n 0, 1) := by decide +kernel
theorem dX5_reorder_61 : decode cX5_reorder 61 = .ok (.getfield 21, 3) := by decide +kernel
theorem dX5_reorder_64 : decode cX5_reorder 64 = .ok (.iload_n 3, 1) := by decide +kernel
theorem dX5_reorder_65 : decode cX5_reorder 65 = .ok (.iaload, 1) := by decide +kernel
theorem dX5_reorder_66 : decode cX5_reorder 66 = .ok (.aload_n 1, 1) := by decide +kernel
theorem dX5_reorder_67 : decode cX5_reorder 67 = .ok (.getfield 64, 3) := by decide +kernel
theorem dX5_reorder_70 : decode cX5_reorder 70 = .ok (.invokevirtual 92, 3) := by decide +kernel
theorem dX5_reorder_73 : decode cX5_reorder 73 = .ok (.iinc 3 1, 3) := by decide +kernel
theorem dX5_reorder_76 : decode cX5_reorder 76 = .ok (.goto (-64), 3) := by decide +kernel
theorem dX5_reorder_79 : decode cX5_reorder 79 = .ok (.return_, 1) := by decide +kernel
theorem dX5_insert_0 : decode cX5_insert 0 = .ok (.aload_n 0, 1) := by decide +kernel
theorem dX5_insert_1 : decode cX5_insert 1 = .ok (.getfield 24, 3) := by decide +kernel
theorem dX5_insert_4 : decode cX5_insert 4 = .ok (.aload_n 0, 1) := by decide +kernel
theorem dX5_insert_5 : decode cX5_insert 5 = .ok (.getfield 15, 3) := by decide +kernel
theorem dX5_insert_8 : decode cX5_insert 8 = .ok (.arraylength, 1) := by decide +kernel
theorem dX5_insert_9 : decode cX5_insert 9 = .ok (.if_icmp .lt 4, 3) := by decide +kernel
theorem dX5_insert_12 : decode cX5_insert 12 = .ok (.return_, 1) := by decide +kernel
theorem dX5_insert_13 : decode cX5_insert 13 = .ok (.aload_n 0, 1) := by decide +kernel
theorem dX5_insert_14 : decode cX5_insert 14 = .ok (.getfield 24, 3) := by decide +kernel
theorem dX5_insert_17 : decode cX5_insert 17 = .ok (.istore 4, 2) := by decide +kernel
theorem dX5_insert_19 : decode cX5_insert 19 = .ok (.iload 4, 2) := by decide +kernel
theorem dX5_insert_21 : decode cX5_insert 21 = .ok (.iload_n 1, 1) := by decide +kernel
theorem dX5_insert_22 : decode cX5_insert 22 = .ok (.if_icmp .le 46, 3) := by decide +kernel
theorem dX5_insert_25 : decode cX5_insert 25 = .ok (.iload 4, 2) := by decide +kernel
theorem dX5_insert_27 : decode cX5_insert 27 = .ok (.ifCond .le 41, 3) := by decide +kernel
theorem dX5_insert_30 : decode cX5_insert 30 = .ok (.aload_n 0, 1) := by decide +kernel
theorem dX5_insert_31 : decode cX5_insert 31 = .ok (.getfield 15, 3) := by decide +kernel
theorem dX5_insert_34 : decode cX5_insert 34 = .ok (.iload 4, 2) := by decide +kernel
theorem dX5_insert_36 : decode cX5_insert 36 = .ok (.aload_n 0, 1) := by decide +kernel
theorem dX5_insert_37 : decode cX5_insert 37 = .ok (.getfield 15, 3) := by decide +kernel
theorem dX5_insert_40 : decode cX5_insert 40 = .ok (.iload 4, 2) := by decide +kernel
theorem dX5_insert_42 : decode cX5_insert 42 = .ok (.iconst 1, 1) := by decide +kernel
theorem dX5_insert_43 : decode cX5_insert 43 = .ok (.isub, 1) := by decide +kernel
theorem dX5_insert_44 : decode cX5_insert 44 = .ok (.iaload, 1) := by decide +kernel
theorem dX5_insert_45 : decode cX5_insert 45 = .ok (.iastore, 1) := by decide +kernel
theorem dX5_insert_46 : decode cX5_insert 46 = .ok (.aload_n 0, 1) := by decide +kernel
theorem dX5_insert_47 : decode cX5_insert 47 = .ok (.getfield 21, 3) := by decide +kernel
theorem dX5_insert_50 : decode cX5_insert 50 = .ok (.iload 4, 2) := by decide +kernel
theorem dX5_insert_52 : decode cX5_insert 52 = .ok (.aload_n 0, 1) := by decide +kernel
theorem dX5_insert_53 : decode cX5_insert 53 = .ok (.getfield 21, 3) := by decide +kernel
theorem dX5_insert_56 : decode cX5_insert 56 = .ok (.iload 4, 2) := by decide +kernel
theorem dX5_insert_58 : decode cX5_insert 58 = .ok (.iconst 1, 1) := by decide +kernel
theorem dX5_insert_59 : decode cX5_insert 59 = .ok (.isub, 1) := by decide +kernel
theorem dX5_insert_60 : decode cX5_insert 60 = .ok (.iaload, 1) := by decide +kernel
theorem dX5_insert_61 : decode cX5_insert 61 = .ok (.iastore, 1) := by decide +kernel
theorem dX5_insert_62 : decode cX5_insert 62 = .ok (.iinc 4 (-1), 3) := by decide +kernel
theorem dX5_insert_65 : decode cX5_insert 65 = .ok (.goto (-46), 3) := by decide +kernel
theorem dX5_insert_68 : decode cX5_insert 68 = .ok (.iload_n 1, 1) := by decide +kernel
theorem dX5_insert_69 : decode cX5_insert 69 = .ok (.ifCond .lt 35, 3) := by decide +kernel
theorem dX5_insert_72 : decode cX5_insert 72 = .ok (.iload_n 1, 1) := by decide +kernel
theorem dX5_insert_73 : decode cX5_insert 73 = .ok (.aload_n 0, 1) := by decide +kernel
theorem dX5_insert_74 : decode cX5_insert 74 = .ok (.getfield 24, 3) := by decide +kernel
theorem dX5_insert_77 : decode cX5_insert 77 = .ok (.if_icmp .gt 27, 3) := by decide +kernel
theorem dX5_insert_80 : decode cX5_insert 80 = .ok (.aload_n 0, 1) := by decide +kernel
theorem dX5_insert_81 : decode cX5_insert 81 = .ok (.getfield 15, 3) := by decide +kernel
theorem dX5_insert_84 : decode cX5_insert 84 = .ok (.iload_n 1, 1) := by decide +kernel
theorem dX5_insert_85 : decode cX5_insert 85 = .ok (.iload_n 2, 1) := by decide +kernel
theorem dX5_insert_86 : decode cX5_insert 86 = .ok (.iastore, 1) := by decide +kernel
theorem dX5_insert_87 : decode cX5_insert 87 = .ok (.aload_n 0, 1) := by decide +kernel
theorem dX5_insert_88 : decode cX5_insert 88 = .ok (.getfield 21, 3) := by decide +kernel
theorem dX5_insert_91 : decode cX5_insert 91 = .ok (.iload_n 1, 1) := by decide +kernel
theorem dX5_insert_92 : decode cX5_insert 92 = .ok (.iload_n 3, 1) := by decide +kernel
theorem dX5_insert_93 : decode cX5_insert 93 = .ok (.iastore, 1) := by decide +kernel
theorem dX5_insert_94 : decode cX5_insert 94 = .ok (.aload_n 0, 1) := by decide +kernel
theorem dX5_insert_95 : decode cX5_insert 95 = .ok (.dup, 1) := by decide +kernel
theorem dX5_insert_96 : decode cX5_insert 96 = .ok (.getfield 24, 3) := by decide +kernel
theorem dX5_insert_99 : decode cX5_insert 99 = .ok (.iconst 1, 1) := by decide +kernel
theorem dX5_insert_100 : decode cX5_insert 100 = .ok (.iadd, 1) := by decide +kernel
theorem dX5_insert_101 : decode cX5_insert 101 = .ok (.putfield 24, 3) := by decide +kernel
theorem dX5_insert_104 : decode cX5_insert 104 = .ok (.return_, 1) := by decide +kernel
end
section
theorem dX6_init_0 : decode cX6_init 0 = .ok (.aload_n 0, 1) := by decide +kernel
theorem dX6_init_1 : decode cX6_init 1 = .ok (.invokespecial 3, 3) := by decide +kernel
theorem dX6_init_4 : decode cX6_init 4 = .ok (.aload_n 0, 1) := by decide +kernel
theorem dX6_init_5 : decode cX6_init 5 = .ok (.iconst 2, 1) := by decide +kernel
theorem dX6_init_6 : decode cX6_init 6 = .ok (.putfield 9, 3) := by decide +kernel
theorem dX6_init_9 : decode cX6_init 9 = .ok (.aload_n 0, 1) := by decide +kernel
theorem dX6_init_10 : decode cX6_init 10 = .ok (.new 15, 3) := by decide +kernel
theorem dX6_init_13 : decode cX6_init 13 = .ok (.dup, 1) := by decide +kernel
theorem dX6_init_14 : decode cX6_init 14 = .ok (.sipush 32003, 3) := by decide +kernel
theorem dX6_init_17 : decode cX6_init 17 = .ok (.invokespecial 17, 3) := by decide +kernel
theorem dX6_init_20 : decode cX6_init 20 = .ok (.putfield 20, 3) := by decide +kernel
theorem dX6_init_23 : decode cX6_init 23 = .ok (.aload_n 0, 1) := by decide +kernel
theorem dX6_init_24 : decode cX6_init 24 = .ok (.iconst 3, 1) := by decide +kernel
theorem dX6_init_25 : decode cX6_init 25 = .ok (.newarray .int, 2) := by decide +kernel
theorem dX6_init_27 : decode cX6_init 27 = .ok (.putfield 24, 3) := by decide +kernel
theorem dX6_init_30 : decode cX6_init 30 = .ok (.aload_n 0, 1) := by decide +kernel
theorem dX6_init_31 : decode cX6_init 31 = .ok (.sipush 165, 3) := by decide +kernel
theorem dX6_init_34 : decode cX6_init 34 = .ok (.newarray .int, 2) := by decide +kernel
theorem dX6_init_36 : decode cX6_init 36 = .ok (.putfield 28, 3) := by decide +kernel
theorem dX6_init_39 : decode cX6_init 39 = .ok (.aload_n 0, 1) := by decide +kernel
theorem dX6_init_40 : decode cX6_init 40 = .ok (.bipush 26, 2) := by decide +kernel
theorem dX6_init_42 : decode cX6_init 42 = .ok (.newarray .int, 2) := by decide +kernel
theorem dX6_init_44 : decode cX6_init 44 = .ok (.putfield 31, 3) := by decide +kernel
theorem dX6_init_47 : decode cX6_init 47 = .ok (.aload_n 0, 1) := by decide +kernel
theorem dX6_init_48 : decode cX6_init 48 = .ok (.iconst 3, 1) := by decide +kernel
theorem dX6_init_49 : decode cX6_init 49 = .ok (.bipush 120, 2) := by decide +kernel
theorem dX6_init_51 : decode cX6_init 51 = .ok (.multianewarray 34 2, 4) := by decide +kernel
theorem dX6_init_55 : decode cX6_init 55 = .ok (.putfield 36, 3) := by decide +kernel
theorem dX6_init_58 : decode cX6_init 58 = .ok (.aload_n 0, 1) := by decide +kernel
theorem dX6_init_59 : decode cX6_init 59 = .ok (.iconst 1, 1) := by decide +kernel
theorem dX6_init_60 : decode cX6_init 60 = .ok (.iconst 1, 1) := by decide +kernel
theorem dX6_init_61 : decode cX6_init 61 = .ok (.iconst 1, 1) := by decide +kernel
theorem dX6_init_62 : decode cX6_init 62 = .ok (.invokevirtual 39, 3) := by decide +kernel
theorem dX6_init_65 : decode cX6_init 65 = .ok (.return_, 1) := by decide +kernel
theorem dX6_bound_0 : decode cX6_bound 0 = .ok (.aload_n 0, 1) := by decide +kernel
theorem dX6_bound_1 : decode cX6_bound 1 = .ok (.getfield 9, 3) := by decide +kernel
theorem dX6_bound_4 : decode cX6_bound 4 = .ok (.iconst 1, 1) := by decide +kernel
theorem dX6_bound_5 : decode cX6_bound 5 = .ok (.if_icmp .ne 8, 3) := by decide +kernel
theorem dX6_bound_8 : decode cX6_bound 8 = .ok (.bipush 24, 2) := by decide +kernel
theorem dX6_bound_10 : decode cX6_bound 10 = .ok (.goto 18, 3) := by decide +kernel
theorem dX6_bound_13 : decode cX6_bound 13 = .ok (.aload_n 0, 1) := by decide +kernel
theorem dX6_bound_14 : decode cX6_bound 14 = .ok (.getfield 9, 3) := by decide +kernel
theorem dX6_bound_17 : decode cX6_bound 17 = .ok (.iconst 2, 1) := by decide +kernel
theorem dX6_bound_18 : decode cX6_bound 18 = .ok (.if_icmp .ne 8, 3) := by decide +kernel
theorem dX6_bound_21 : decode cX6_bound 21 = .ok (.bipush 12, 2) := by decide +kernel
theorem dX6_bound_23 : decode cX6_bound 23 = .ok (.goto 5, 3) := by decide +kernel
theorem dX6_bound_26 : decode cX6_bound 26 = .ok (.bipush 8, 2) := by decide +kernel
theorem dX6_bound_28 : decode cX6_bound 28 = .ok (.ireturn, 1) := by decide +kernel
theorem dX6_width_0 : decode cX6_width 0 = .ok (.aload_n 0, 1) := by decide +kernel
theorem dX6_width_1 : decode cX6_width 1 = .ok (.getfield 31, 3) := by decide +kernel
theorem dX6_width_4 : decode cX6_width 4 = .ok (.aload_n 0, 1) := by decide +kernel
theorem dX6_width_5 : decode cX6_width 5 = .ok (.invokevirtual 43, 3) := by decide +kernel
theorem dX6_width_8 : decode cX6_width 8 = .ok (.iaload, 1) := by decide +kernel
theorem dX6_width_9 : decode cX6_width 9 = .ok (.ireturn, 1) := by decide +kernel
theorem dX6_weigh_0 : decode cX6_weigh 0 = .ok (.aload_n 0, 1) := by decide +kernel
theorem dX6_weigh_1 : decode cX6_weigh 1 = .ok (.getfield 24, 3) := by decide +kernel
theorem dX6_weigh_4 : decode cX6_weigh 4 = .ok (.iconst 0, 1) := by decide +kernel
theorem dX6_weigh_5 : decode cX6_weigh 5 = .ok (.iload_n 1, 1) := by decide +kernel
theorem dX6_weigh_6 : decode cX6_weigh 6 = .ok (.iastore, 1) := by decide +kernel
theorem dX6_weigh_7 : decode cX6_weigh 7 = .ok (.aload_n 0, 1) := by decide +kernel
theorem dX6_weigh_8 : decode cX6_weigh 8 = .ok (.getfield 24, 3) := by decide +kernel
theorem dX6_weigh_11 : decode cX6_weigh 11 = .ok (.iconst 1, 1) := by decide +kernel
theorem dX6_weigh_12 : decode cX6_weigh 12 = .ok (.iload_n 2, 1) := by decide +kernel
theorem dX6_weigh_13 : decode cX6_weigh 13 = .ok (.iastore, 1) := by decide +kernel
theorem dX6_weigh_14 : decode cX6_weigh 14 = .ok (.aload_n 0, 1) := by decide +kernel
theorem dX6_weigh_15 : decode cX6_weigh 15 = .ok (.getfield 24, 3) := by decide +kernel
theorem dX6_weigh_18 : decode cX6_weigh 18 = .ok (.iconst 2, 1) := by decide +kernel
theorem dX6_weigh_19 : decode cX6_weigh 19 = .ok (.iload_n 3, 1) := by decide +kernel
theorem dX6_weigh_20 : decode cX6_weigh 20 = .ok (.iastore, 1) := by decide +kernel
theorem dX6_weigh_21 : decode cX6_weigh 21 = .ok (.aload_n 0, 1) := by decide +kernel
theorem dX6_weigh_22 : decode cX6_weigh 22 = .ok (.iconst 0, 1) := by decide +kernel
theorem dX6_weigh_23 : decode cX6_weigh 23 = .ok (.putfield 47, 3) := by decide +kernel
theorem dX6_weigh_26 : decode cX6_weigh 26 = .ok (.iconst 0, 1) := by decide +kernel
theorem dX6_weigh_27 : decode cX6_weigh 27 = .ok (.istore 4, 2) := by decide +kernel
theorem dX6_weigh_29 : decode cX6_weigh 29 = .ok (.iload 4, 2) := by decide +kernel
theorem dX6_weigh_31 : decode cX6_weigh 31 = .ok (.aload_n 0, 1) := by decide +kernel
theorem dX6_weigh_32 : decode cX6_weigh 32 = .ok (.invokevirtual 43, 3) := by decide +kernel
theorem dX6_weigh_35 : decode cX6_weigh 35 = .ok (.if_icmp .gt 26, 3) := by decide +kernel
theorem dX6_weigh_38 : decode cX6_weigh 38 = .ok (.aload_n 0, 1) := by decide +kernel
theorem dX6_weigh_39 : decode cX6_weigh 39 = .ok (.getfield 31, 3) := by decide +kernel
theorem dX6_weigh_42 : decode cX6_weigh 42 = .ok (.iload 4, 2) := by decide +kernel
theorem dX6_weigh_44 : decode cX6_weigh 44 = .ok (.aload_n 0, 1) := by decide +kernel
theorem dX6_weigh_45 : decode cX6_weigh 45 = .ok (.getfield 47, 3) := by decide +kernel
theorem dX6_weigh_48 : decode cX6_weigh 48 = .ok (.iastore, 1) := by decide +kernel
theorem dX6_weigh_49 : decode cX6_weigh 49 = .ok (.aload_n 0, 1) := by decide +kernel
theorem dX6_weigh_50 : decode cX6_weigh 50 = .ok (.iload 4, 2) := by decide +kernel
theorem dX6_weigh_52 : decode cX6_weigh 52 = .ok (.invokevirtual 50, 3) := by decide +kernel
theorem dX6_weigh_55 : decode cX6_weigh 55 = .ok (.iinc 4 1, 3) := by decide +kernel
theorem dX6_weigh_58 : decode cX6_weigh 58 = .ok (.goto (-29), 3) := by decide +kernel
theorem dX6_weigh_61 : decode cX6_weigh 61 = .ok (.aload_n 0, 1) := by decide +kernel
theorem dX6_weigh_62 : decode cX6_weigh 62 = .ok (.getfield 31, 3) := by decide +kernel
theorem dX6_weigh_65 : decode cX6_weigh 65 = .ok (.aload_n 0, 1) := by decide +kernel
theorem dX6_weigh_66 : decode cX6_weigh 66 = .ok (.invokevirtual 43, 3) := by decide +kernel
theorem dX6_weigh_69 : decode cX6_weigh 69 = .ok (.iconst 1, 1) := by decide +kernel
theorem dX6_weigh_70 : decode cX6_weigh 70 = .ok (.iadd, 1) := by decide +kernel
theorem dX6_weigh_71 : decode cX6_weigh 71 = .ok (.aload_n 0, 1) := by decide +kernel
theorem dX6_weigh_72 : decode cX6_weigh 72 = .ok (.getfield 47, 3) := by decide +kernel
theorem dX6_weigh_75 : decode cX6_weigh 75 = .ok (.iastore, 1) := by decide +kernel
theorem dX6_weigh_76 : decode cX6_weigh 76 = .ok (.iconst 0, 1) := by decide +kernel
theorem dX6_weigh_77 : decode cX6_weigh 77 = .ok (.istore 4, 2) := by decide +kernel
theorem dX6_weigh_79 : decode cX6_weigh 79 = .ok (.iload 4, 2) := by decide +kernel
theorem dX6_weigh_81 : decode cX6_weigh 81 = .ok (.aload_n 0, 1) := by decide +kernel
theorem dX6_weigh_82 : decode cX6_weigh 82 = .ok (.getfield 9, 3) := by decide +kernel
theorem dX6_weigh_85 : decode cX6_weigh 85 = .ok (.if_icmp .ge 15, 3) := by decide +kernel
theorem dX6_weigh_88 : decode cX6_weigh 88 = .ok (.aload_n 0, 1) := by decide +kernel
theorem dX6_weigh_89 : decode cX6_weigh 89 = .ok (.iload 4, 2) := by decide +kernel
theorem dX6_weigh_91 : decode cX6_weigh 91 = .ok (.invokevirtual 53, 3) := by decide +kernel
theorem dX6_weigh_94 : decode cX6_weigh 94 = .ok (.iinc 4 1, 3) := by decide +kernel
theorem dX6_weigh_97 : decode cX6_weigh 97 = .ok (.goto (-18), 3) := by decide +kernel
theorem dX6_weigh_100 : decode cX6_weigh 100 = .ok (.return_, 1) := by decide +kernel
theorem dX6_mono_0 : decode cX6_mono 0 = .ok (.iload_n 1, 1) := by decide +kernel
theorem dX6_mono_1 : decode cX6_mono 1 = .ok (.aload_n 0, 1) := by decide +kernel
theorem dX6_mono_2 : decode cX6_mono 2 = .ok (.getfield 24, 3) := by decide +kernel
theorem dX6_mono_5 : decode cX6_mono 5 = .ok (.iconst 0, 1) := by decide +kernel
theorem dX6_mono_6 : decode cX6_mono 6 = .ok (.iaload, 1) := by decide +kernel
theorem dX6_mono_7 : decode cX6_mono 7 = .ok (.imul, 1) := by decide +kernel
theorem dX6_mono_8 : decode cX6_mono 8 = .ok (.iload_n 2, 1) := by decide +kernel
theorem dX6_mono_9 : decode cX6_mono 9 = .ok (.aload_n 0, 1) := by decide +kernel
theorem dX6_mono_10 : decode cX6_mono 10 = .ok (.getfield 24, 3) := by decide +kernel
theorem dX6_mono_13 : decode cX6_mono 13 = .ok (.iconst 1, 1) := by decide +kernel
theorem dX6_mono_14 : decode cX6_mono 14 = .ok (.iaload, 1) := by decide +kernel
theorem dX6_mono_15 : decode cX6_mono 15 = .ok (.imul, 1) := by decide +kernel
theorem dX6_mono_16 : decode cX6_mono 16 = .ok (.iadd, 1) := by decide +kernel
theorem dX6_mono_17 : decode cX6_mono 17 = .ok (.iload_n 3, 1) := by decide +kernel
theorem dX6_mono_18 : decode cX6_mono 18 = .ok (.aload_n 0, 1) := by decide +kernel
theorem dX6_mono_19 : decode cX6_mono 19 = .ok (.getfield 24, 3) := by decide +kernel
theorem dX6_mono_22 : decode cX6_mono 22 = .ok (.iconst 2, 1) := by decide +kernel
theorem dX6_mono_23 : decode cX6_mono 23 = .ok (.iaload, 1) := by decide +kernel
theorem dX6_mono_24 : decode cX6_mono 24 = .ok (.imul, 1) := by decide +kernel
theorem dX6_mono_25 : decode cX6_mono 25 = .ok (.iadd, 1) := by decide +kernel
theorem dX6_mono_26 : decode cX6_mono 26 = .ok (.iload_n 1, 1) := by decide +kernel
theorem dX6_mono_27 : decode cX6_mono 27 = .ok (.iload_n 2, 1) := by decide +kernel
theorem dX6_mono_28 : decode cX6_mono 28 = .ok (.iload_n 3, 1) := by decide +kernel
theorem dX6_mono_29 : decode cX6_mono 29 = .ok (.invokestatic 62, 3) := by decide +kernel
theorem dX6_mono_32 : decode cX6_mono 32 = .ok (.ireturn, 1) := by decide +kernel
theorem dX6_variable_0 : decode cX6_variable 0 = .ok (.aload_n 0, 1) := by decide +kernel
theorem dX6_variable_1 : decode cX6_variable 1 = .ok (.iload_n 1, 1) := by decide +kernel
theorem dX6_variable_2 : decode cX6_variable 2 = .ok (.ifCond .ne 7, 3) := by decide +kernel
theorem dX6_variable_5 : decode cX6_variable 5 = .ok (.iconst 1, 1) := by decide +kernel
theorem dX6_variable_6 : decode cX6_variable 6 = .ok (.goto 4, 3) := by decide +kernel
theorem dX6_variable_9 : decode cX6_variable 9 = .ok (.iconst 0, 1) := by decide +kernel
theorem dX6_variable_10 : decode cX6_variable 10 = .ok (.iload_n 1, 1) := by decide +kernel
theorem dX6_variable_11 : decode cX6_variable 11 = .ok (.iconst 1, 1) := by decide +kernel
theorem dX6_variable_12 : decode cX6_variable 12 = .ok (.if_icmp .ne 7, 3) := by decide +kernel
theorem dX6_variable_15 : decode cX6_variable 15 = .ok (.iconst 1, 1) := by decide +kernel
theorem dX6_variable_16 : decode cX6_variable 16 = .ok (.goto 4, 3) := by decide +kernel
theorem dX6_variable_19 : decode cX6_variable 19 = .ok (.iconst 0, 1) := by decide +kernel
theorem dX6_variable_20 : decode cX6_variable 20 = .ok (.iload_n 1, 1) := by decide +kernel
theorem dX6_variable_21 : decode cX6_variable 21 = .ok (.iconst 2, 1) := by decide +kernel
theorem dX6_variable_22 : decode cX6_variable 22 = .ok (.if_icmp .ne 7, 3) := by decide +kernel
theorem dX6_variable_25 : decode cX6_variable 25 = .ok (.iconst 1, 1) := by decide +kernel
theorem dX6_variable_26 : decode cX6_variable 26 = .ok (.goto 4, 3) := by decide +kernel
theorem dX6_variable_29 : decode cX6_variable 29 = .ok (.iconst 0, 1) := by decide +kernel
theorem dX6_variable_30 : decode cX6_variable 30 = .ok (.invokevirtual 68, 3) := by decide +kernel
theorem dX6_variable_33 : decode cX6_variable 33 = .ok (.ireturn, 1) := by decide +kernel
theorem dX6_column_0 : decode cX6_column 0 = .ok (.iconst 0, 1) := by decide +kernel
theorem dX6_column_1 : decode cX6_column 1 = .ok (.istore_n 2, 1) := by decide +kernel
theorem dX6_column_2 : decode cX6_column 2 = .ok (.aload_n 0, 1) := by decide +kernel
theorem dX6_column_3 : decode cX6_column 3 = .ok (.invokevirtual 72, 3) := by decide +kernel
theorem dX6_column_6 : decode cX6_column 6 = .ok (.bipush 120, 2) := by decide +kernel
theorem dX6_column_8 : decode cX6_column 8 = .ok (.invokestatic 75, 3) := by decide +kernel
theorem dX6_column_11 : decode cX6_column 11 = .ok (.istore_n 3, 1) := by decide +kernel
theorem dX6_column_12 : decode cX6_column 12 = .ok (.iload_n 2, 1) := by decide +kernel
theorem dX6_column_13 : decode cX6_column 13 = .ok (.iload_n 3, 1) := by decide +kernel
theorem dX6_column_14 : decode cX6_column 14 = .ok (.if_icmp .ge 35, 3) := by decide +kernel
theorem dX6_column_17 : decode cX6_column 17 = .ok (.iload_n 2, 1) := by decide +kernel
theorem dX6_column_18 : decode cX6_column 18 = .ok (.iload_n 3, 1) := by decide +kernel
theorem dX6_column_19 : decode cX6_column 19 = .ok (.iadd, 1) := by decide +kernel
theorem dX6_column_20 : decode cX6_column 20 = .ok (.iconst 1, 1) := by decide +kernel
theorem dX6_column_21 : decode cX6_column 21 = .ok (.iushr, 1) := by decide +kernel
theorem dX6_column_22 : decode cX6_column 22 = .ok (.istore 4, 2) := by decide +kernel
theorem dX6_column_24 : decode cX6_column 24 = .ok (.aload_n 0, 1) := by decide +kernel
theorem dX6_column_25 : decode cX6_column 25 = .ok (.getfield 28, 3) := by decide +kernel
theorem dX6_column_28 : decode cX6_column 28 = .ok (.iload 4, 2) := by decide +kernel
theorem dX6_column_30 : decode cX6_column 30 = .ok (.iaload, 1) := by decide +kernel
theorem dX6_column_31 : decode cX6_column 31 = .ok (.iload_n 1, 1) := by decide +kernel
theorem dX6_column_32 : decode cX6_column 32 = .ok (.if_icmp .ge 11, 3) := by decide +kernel
theorem dX6_column_35 : decode cX6_column 35 = .ok (.iload 4, 2) := by decide +kernel
theorem dX6_column_37 : decode cX6_column 37 = .ok (.iconst 1, 1) := by decide +kernel
theorem dX6_column_38 : decode cX6_column 38 = .ok (.iadd, 1) := by decide +kernel
theorem dX6_column_39 : decode cX6_column 39 = .ok (.istore_n 2, 1) := by decide +kernel
theorem dX6_column_40 : decode cX6_column 40 = .ok (.goto 6, 3) := by decide +kernel
theorem dX6_column_43 : decode cX6_column 43 = .ok (.iload 4, 2) := by decide +kernel
theorem dX6_column_45 : decode cX6_column 45 = .ok (.istore_n 3, 1) := by decide +kernel
theorem dX6_column_46 : decode cX6_column 46 = .ok (.goto (-34), 3) := by decide +kernel
theorem dX6_column_49 : decode cX6_column 49 = .ok (.iload_n 2, 1) := by decide +kernel
theorem dX6_column_50 : decode cX6_column 50 = .ok (.aload_n 0, 1) := by decide +kernel
theorem dX6_column_51 : decode cX6_column 51 = .ok (.invokevirtual 72, 3) := by decide +kernel
theorem dX6_column_54 : decode cX6_column 54 = .ok (.if_icmp .ge 17, 3) := by decide +kernel
theorem dX6_column_57 : decode cX6_column 57 = .ok (.aload_n 0, 1) := by decide +kernel
theorem dX6_column_58 : decode cX6_column 58 = .ok (.getfield 28, 3) := by decide +kernel
theorem dX6_column_61 : decode cX6_column 61 = .ok (.iload_n 2, 1) := by decide +kernel
theorem dX6_column_62 : decode cX6_column 62 = .ok (.iaload, 1) := by decide +kernel
theorem dX6_column_63 : decode cX6_column 63 = .ok (.iload_n 1, 1) := by decide +kernel
theorem dX6_column_64 : decode cX6_column 64 = .ok (.if_icmp .ne 7, 3) := by decide +kernel
theorem dX6_column_67 : decode cX6_column 67 = .ok (.iload_n 2, 1) := by decide +kernel
theorem dX6_column_68 : decode cX6_column 68 = .ok (.goto 4, 3) := by decide +kernel
theorem dX6_column_71 : decode cX6_column 71 = .ok (.iconst (-1), 1) := by decide +kernel
theorem dX6_column_72 : decode cX6_column 72 = .ok (.ireturn, 1) := by decide +kernel
theorem dX6_listDegree_0 : decode cX6_listDegree 0 = .ok (.iload_n 1, 1) := by decide +kernel
theorem dX6_listDegree_1 : decode cX6_listDegree 1 = .ok (.istore_n 2, 1) := by decide +kernel
theorem dX6_listDegree_2 : decode cX6_listDegree 2 = .ok (.iload_n 2, 1) := by decide +kernel
theorem dX6_listDegree_3 : decode cX6_listDegree 3 = .ok (.ifCond .lt 109, 3) := by decide +kernel
theorem dX6_listDegree_6 : decode cX6_listDegree 6 = .ok (.aload_n 0, 1) := by decide +kernel
theorem dX6_listDegree_7 : decode cX6_listDegree 7 = .ok (.getfield 9, 3) := by decide +kernel
theorem dX6_listDegree_10 : decode cX6_listDegree 10 = .ok (.iconst 1, 1) := by decide +kernel
theorem dX6_listDegree_11 : decode cX6_listDegree 11 = .ok (.if_icmp .le 7, 3) := by decide +kernel
theorem dX6_listDegree_14 : decode cX6_listDegree 14 = .ok (.iload_n 1, 1) := by decide +kernel
theorem dX6_listDegree_15 : decode cX6_listDegree 15 = .ok (.goto 4, 3) := by decide +kernel
theorem dX6_listDegree_18 : decode cX6_listDegree 18 = .ok (.iconst 0, 1) := by decide +kernel
theorem dX6_listDegree_19 : decode cX6_listDegree 19 = .ok (.istore_n 3, 1) := by decide +kernel
theorem dX6_listDegree_20 : decode cX6_listDegree 20 = .ok (.iload_n 3, 1) := by decide +kernel
theorem dX6_listDegree_21 : decode cX6_listDegree 21 = .ok (.ifCond .lt 85, 3) := by decide +kernel
theorem dX6_listDegree_24 : decode cX6_listDegree 24 = .ok (.aload_n 0, 1) := by decide +kernel
theorem dX6_listDegree_25 : decode cX6_listDegree 25 = .ok (.getfield 9, 3) := by decide +kernel
theorem dX6_listDegree_28 : decode cX6_listDegree 28 = .ok (.iconst 2, 1) := by decide +kernel
theorem dX6_listDegree_29 : decode cX6_listDegree 29 = .ok (.if_icmp .le 7, 3) := by decide +kernel
theorem dX6_listDegree_32 : decode cX6_listDegree 32 = .ok (.iload_n 1, 1) := by decide +kernel
theorem dX6_listDegree_33 : decode cX6_listDegree 33 = .ok (.goto 4, 3) := by decide +kernel
theorem dX6_listDegree_36 : decode cX6_listDegree 36 = .ok (.iconst 0, 1) := by decide +kernel
theorem dX6_listDegree_37 : decode cX6_listDegree 37 = .ok (.istore 4, 2) := by decide +kernel
theorem dX6_listDegree_39 : decode cX6_listDegree 39 = .ok (.iload 4, 2) := by decide +kernel
theorem dX6_listDegree_41 : decode cX6_listDegree 41 = .ok (.ifCond .lt 59, 3) := by decide +kernel
theorem dX6_listDegree_44 : decode cX6_listDegree 44 = .ok (.aload_n 0, 1) := by decide +kernel
theorem dX6_listDegree_45 : decode cX6_listDegree 45 = .ok (.iload_n 2, 1) := by decide +kernel
theorem dX6_listDegree_46 : decode cX6_listDegree 46 = .ok (.iload_n 3, 1) := by decide +kernel
theorem dX6_listDegree_47 : decode cX6_listDegree 47 = .ok (.iload 4, 2) := by decide +kernel
theorem dX6_listDegree_49 : decode cX6_listDegree 49 = .ok (.invokevirtual 68, 3) := by decide +kernel
theorem dX6_listDegree_52 : decode cX6_listDegree 52 = .ok (.istore 5, 2) := by decide +kernel
theorem dX6_listDegree_54 : decode cX6_listDegree 54 = .ok (.iload 5, 2) := by decide +kernel
theorem dX6_listDegree_56 : decode cX6_listDegree 56 = .ok (.invokestatic 78, 3) := by decide +kernel
theorem dX6_listDegree_59 : decode cX6_listDegree 59 = .ok (.iload_n 1, 1) := by decide +kernel
theorem dX6_listDegree_60 : decode cX6_listDegree 60 = .ok (.if_icmp .ne 34, 3) := by decide +kernel
theorem dX6_listDegree_63 : decode cX6_listDegree 63 = .ok (.aload_n 0, 1) := by decide +kernel
theorem dX6_listDegree_64 : decode cX6_listDegree 64 = .ok (.getfield 47, 3) := by decide +kernel
theorem dX6_listDegree_67 : decode cX6_listDegree 67 = .ok (.sipush 165, 3) := by decide +kernel
theorem dX6_listDegree_70 : decode cX6_listDegree 70 = .ok (.if_icmp .ge 24, 3) := by decide +kernel
theorem dX6_listDegree_73 : decode cX6_listDegree 73 = .ok (.aload_n 0, 1) := by decide +kernel
theorem dX6_listDegree_74 : decode cX6_listDegree 74 = .ok (.getfield 28, 3) := by decide +kernel
theorem dX6_listDegree_77 : decode cX6_listDegree 77 = .ok (.aload_n 0, 1) := by decide +kernel
theorem dX6_listDegree_78 : decode cX6_listDegree 78 = .ok (.getfield 47, 3) := by decide +kernel
theorem dX6_listDegree_81 : decode cX6_listDegree 81 = .ok (.iload 5, 2) := by decide +kernel
theorem dX6_listDegree_83 : decode cX6_listDegree 83 = .ok (.iastore, 1) := by decide +kernel
theorem dX6_listDegree_84 : decode cX6_listDegree 84 = .ok (.aload_n 0, 1) := by decide +kernel
theorem dX6_listDegree_85 : decode cX6_listDegree 85 = .ok (.dup, 1) := by decide +kernel
theorem dX6_listDegree_86 : decode cX6_listDegree 86 = .ok (.getfield 47, 3) := by decide +kernel
theorem dX6_listDegree_89 : decode cX6_listDegree 89 = .ok (.iconst 1, 1) := by decide +kernel
theorem dX6_listDegree_90 : decode cX6_listDegree 90 = .ok (.iadd, 1) := by decide +kernel
theorem dX6_listDegree_91 : decode cX6_listDegree 91 = .ok (.putfield 47, 3) := by decide +kernel
theorem dX6_listDegree_94 : decode cX6_listDegree 94 = .ok (.iinc 4 (-1), 3) := by decide +kernel
theorem dX6_listDegree_97 : decode cX6_listDegree 97 = .ok (.goto (-58), 3) := by decide +kernel
theorem dX6_listDegree_100 : decode cX6_listDegree 100 = .ok (.iinc 3 (-1), 3) := by decide +kernel
theorem dX6_listDegree_103 : decode cX6_listDegree 103 = .ok (.goto (-83), 3) := by decide +kernel
theorem dX6_listDegree_106 : decode cX6_listDegree 106 = .ok (.iinc 2 (-1), 3) := by decide +kernel
theorem dX6_listDegree_109 : decode cX6_listDegree 109 = .ok (.goto (-107), 3) := by decide +kernel
theorem dX6_listDegree_112 : decode cX6_listDegree 112 = .ok (.return_, 1) := by decide +kernel
theorem dX6_linkProducts_0 : decode cX6_linkProducts 0 = .ok (.iconst 0, 1) := by decide +kernel
theorem dX6_linkProducts_1 : decode cX6_linkProducts 1 = .ok (.istore_n 2, 1) := by decide +kernel
theorem dX6_linkProducts_2 : decode cX6_linkProducts 2 = .ok (.iload_n 2, 1) := by decide +kernel
theorem dX6_linkProducts_3 : decode cX6_linkProducts 3 = .ok (.aload_n 0, 1) := by decide +kernel
theorem dX6_linkProducts_4 : decode cX6_linkProducts 4 = .ok (.invokevirtual 72, 3) := by decide +kernel
theorem dX6_linkProducts_7 : decode cX6_linkProducts 7 = .ok (.if_icmp .ge 41, 3) := by decide +kernel
theorem dX6_linkProducts_10 : decode cX6_linkProducts 10 = .ok (.iload_n 2, 1) := by decide +kernel
theorem dX6_linkProducts_11 : decode cX6_linkProducts 11 = .ok (.bipush 120, 2) := by decide +kernel
theorem dX6_linkProducts_13 : decode cX6_linkProducts 13 = .ok (.if_icmp .ge 35, 3) := by decide +kernel
theorem dX6_linkProducts_16 : decode cX6_linkProducts 16 = .ok (.aload_n 0, 1) := by decide +kernel
theorem dX6_linkProducts_17 : decode cX6_linkProducts 17 = .ok (.getfield 36, 3) := by decide +kernel
theorem dX6_linkProducts_20 : decode cX6_linkProducts 20 = .ok (.iload_n 1, 1) := by decide +kernel
theorem dX6_linkProducts_21 : decode cX6_linkProducts 21 = .ok (.aaload, 1) := by decide +kernel
theorem dX6_linkProducts_22 : decode cX6_linkProducts 22 = .ok (.iload_n 2, 1) := by decide +kernel
theorem dX6_linkProducts_23 : decode cX6_linkProducts 23 = .ok (.aload_n 0, 1) := by decide +kernel
theorem dX6_linkProducts_24 : decode cX6_linkProducts 24 = .ok (.aload_n 0, 1) := by decide +kernel
theorem dX6_linkProducts_25 : decode cX6_linkProducts 25 = .ok (.getfield 28, 3) := by decide +kernel
theorem dX6_linkProducts_28 : decode cX6_linkProducts 28 = .ok (.iload_n 2, 1) := by decide +kernel
theorem dX6_linkProducts_29 : decode cX6_linkProducts 29 = .ok (.iaload, 1) := by decide +kernel
theorem dX6_linkProducts_30 : decode cX6_linkProducts 30 = .ok (.aload_n 0, 1) := by decide +kernel
theorem dX6_linkProducts_31 : decode cX6_linkProducts 31 = .ok (.iload_n 1, 1) := by decide +kernel
theorem dX6_linkProducts_32 : decode cX6_linkProducts 32 = .ok (.invokevirtual 82, 3) := by decide +kernel
theorem dX6_linkProducts_35 : decode cX6_linkProducts 35 = .ok (.invokestatic 85, 3) := by decide +kernel
theorem dX6_linkProducts_38 : decode cX6_linkProducts 38 = .ok (.invokevirtual 88, 3) := by decide +kernel
theorem dX6_linkProducts_41 : decode cX6_linkProducts 41 = .ok (.iastore, 1) := by decide +kernel
theorem dX6_linkProducts_42 : decode cX6_linkProducts 42 = .ok (.iinc 2 1, 3) := by decide +kernel
theorem dX6_linkProducts_45 : decode cX6_linkProducts 45 = .ok (.goto (-43), 3) := by decide +kernel
theorem dX6_linkProducts_48 : decode cX6_linkProducts 48 = .ok (.return_, 1) := by decide +kernel
end
section
theorem dX7_init_0 : decode cX7_init 0 = .ok (.aload_n 0, 1) := by decide +kernel
theorem dX7_init_1 : decode cX7_init 1 = .ok (.invokespecial 3, 3) := by decide +kernel
theorem dX7_init_4 : decode cX7_init 4 = .ok (.aload_n 0, 1) := by decide +kernel
theorem dX7_init_5 : decode cX7_init 5 = .ok (.sipush 200, 3) := by decide +kernel
theorem dX7_init_8 : decode cX7_init 8 = .ok (.newarray .int, 2) := by decide +kernel
theorem dX7_init_10 : decode cX7_init 10 = .ok (.putfield 9, 3) := by decide +kernel
theorem dX7_init_13 : decode cX7_init 13 = .ok (.aload_n 0, 1) := by decide +kernel
theorem dX7_init_14 : decode cX7_init 14 = .ok (.iconst (-1), 1) := by decide +kernel
theorem dX7_init_15 : decode cX7_init 15 = .ok (.putfield 15, 3) := by decide +kernel
theorem dX7_init_18 : decode cX7_init 18 = .ok (.aload_n 0, 1) := by decide +kernel
theorem dX7_init_19 : decode cX7_init 19 = .ok (.new 19, 3) := by decide +kernel
theorem dX7_init_22 : decode cX7_init 22 = .ok (.dup, 1) := by decide +kernel
theorem dX7_init_23 : decode cX7_init 23 = .ok (.bipush 101, 2) := by decide +kernel
theorem dX7_init_25 : decode cX7_init 25 = .ok (.invokespecial 21, 3) := by decide +kernel
theorem dX7_init_28 : decode cX7_init 28 = .ok (.putfield 24, 3) := by decide +kernel
theorem dX7_init_31 : decode cX7_init 31 = .ok (.aload_n 0, 1) := by decide +kernel
theorem dX7_init_32 : decode cX7_init 32 = .ok (.iconst 3, 1) := by decide +kernel
theorem dX7_init_33 : decode cX7_init 33 = .ok (.newarray .int, 2) := by decide +kernel
theorem dX7_init_35 : decode cX7_init 35 = .ok (.putfield 28, 3) := by decide +kernel
theorem dX7_init_38 : decode cX7_init 38 = .ok (.return_, 1) := by decide +kernel
theorem dX7_take_0 : decode cX7_take 0 = .ok (.bipush 24, 2) := by decide +kernel
theorem dX7_take_2 : decode cX7_take 2 = .ok (.istore_n 2, 1) := by decide +kernel
theorem dX7_take_3 : decode cX7_take 3 = .ok (.iload_n 2, 1) := by decide +kernel
theorem dX7_take_4 : decode cX7_take 4 = .ok (.ifCond .lt 45, 3) := by decide +kernel
theorem dX7_take_7 : decode cX7_take 7 = .ok (.aload_n 0, 1) := by decide +kernel
theorem dX7_take_8 : decode cX7_take 8 = .ok (.getfield 31, 3) := by decide +kernel
theorem dX7_take_11 : decode cX7_take 11 = .ok (.sipush 200, 3) := by decide +kernel
theorem dX7_take_14 : decode cX7_take 14 = .ok (.if_icmp .ge 35, 3) := by decide +kernel
theorem dX7_take_17 : decode cX7_take 17 = .ok (.aload_n 0, 1) := by decide +kernel
theorem dX7_take_18 : decode cX7_take 18 = .ok (.getfield 9, 3) := by decide +kernel
theorem dX7_take_21 : decode cX7_take 21 = .ok (.aload_n 0, 1) := by decide +kernel
theorem dX7_take_22 : decode cX7_take 22 = .ok (.getfield 31, 3) := by decide +kernel
theorem dX7_take_25 : decode cX7_take 25 = .ok (.iload_n 1, 1) := by decide +kernel
theorem dX7_take_26 : decode cX7_take 26 = .ok (.iload_n 2, 1) := by decide +kernel
theorem dX7_take_27 : decode cX7_take 27 = .ok (.iushr, 1) := by decide +kernel
theorem dX7_take_28 : decode cX7_take 28 = .ok (.sipush 255, 3) := by decide +kernel
theorem dX7_take_31 : decode cX7_take 31 = .ok (.iand, 1) := by decide +kernel
theorem dX7_take_32 : decode cX7_take 32 = .ok (.iastore, 1) := by decide +kernel
theorem dX7_take_33 : decode cX7_take 33 = .ok (.aload_n 0, 1) := by decide +kernel
theorem dX7_take_34 : decode cX7_take 34 = .ok (.dup, 1) := by decide +kernel
theorem dX7_take_35 : decode cX7_take 35 = .ok (.getfield 31, 3) := by decide +kernel
theorem dX7_take_38 : decode cX7_take 38 = .ok (.iconst 1, 1) := by decide +kernel
theorem dX7_take_39 : decode cX7_take 39 = .ok (.iadd, 1) := by decide +kernel
theorem dX7_take_40 : decode cX7_take 40 = .ok (.putfield 31, 3) := by decide +kernel
theorem dX7_take_43 : decode cX7_take 43 = .ok (.iinc 2 (-8), 3) := by decide +kernel
theorem dX7_take_46 : decode cX7_take 46 = .ok (.goto (-43), 3) := by decide +kernel
theorem dX7_take_49 : decode cX7_take 49 = .ok (.return_, 1) := by decide +kernel
theorem dX7_clearFault_0 : decode cX7_clearFault 0 = .ok (.aload_n 0, 1) := by decide +kernel
theorem dX7_clearFault_1 : decode cX7_clearFault 1 = .ok (.iconst 0, 1) := by decide +kernel
theorem dX7_clearFault_2 : decode cX7_clearFault 2 = .ok (.putfield 34, 3) := by decide +kernel
theorem dX7_clearFault_5 : decode cX7_clearFault 5 = .ok (.aload_n 0, 1) := by decide +kernel
theorem dX7_clearFault_6 : decode cX7_clearFault 6 = .ok (.iconst (-1), 1) := by decide +kernel
theorem dX7_clearFault_7 : decode cX7_clearFault 7 = .ok (.putfield 15, 3) := by decide +kernel
theorem dX7_clearFault_10 : decode cX7_clearFault 10 = .ok (.return_, 1) := by decide +kernel
theorem dX7_read_0 : decode cX7_read 0 = .ok (.aload_n 0, 1) := by decide +kernel
theorem dX7_read_1 : decode cX7_read 1 = .ok (.iconst 0, 1) := by decide +kernel
theorem dX7_read_2 : decode cX7_read 2 = .ok (.putfield 37, 3) := by decide +kernel
theorem dX7_read_5 : decode cX7_read 5 = .ok (.aload_n 0, 1) := by decide +kernel
theorem dX7_read_6 : decode cX7_read 6 = .ok (.getfield 24, 3) := by decide +kernel
theorem dX7_read_9 : decode cX7_read 9 = .ok (.invokevirtual 40, 3) := by decide +kernel
theorem dX7_read_12 : decode cX7_read 12 = .ok (.aload_n 0, 1) := by decide +kernel
theorem dX7_read_13 : decode cX7_read 13 = .ok (.invokevirtual 43, 3) := by decide +kernel
theorem dX7_read_16 : decode cX7_read 16 = .ok (.bipush 45, 2) := by decide +kernel
theorem dX7_read_18 : decode cX7_read 18 = .ok (.if_icmp .ne 8, 3) := by decide +kernel
theorem dX7_read_21 : decode cX7_read 21 = .ok (.bipush 45, 2) := by decide +kernel
theorem dX7_read_23 : decode cX7_read 23 = .ok (.goto 5, 3) := by decide +kernel
theorem dX7_read_26 : decode cX7_read 26 = .ok (.bipush 43, 2) := by decide +kernel
theorem dX7_read_28 : decode cX7_read 28 = .ok (.istore_n 2, 1) := by decide +kernel
theorem dX7_read_29 : decode cX7_read 29 = .ok (.iload_n 2, 1) := by decide +kernel
theorem dX7_read_30 : decode cX7_read 30 = .ok (.bipush 45, 2) := by decide +kernel
theorem dX7_read_32 : decode cX7_read 32 = .ok (.if_icmp .ne 13, 3) := by decide +kernel
theorem dX7_read_35 : decode cX7_read 35 = .ok (.aload_n 0, 1) := by decide +kernel
theorem dX7_read_36 : decode cX7_read 36 = .ok (.dup, 1) := by decide +kernel
theorem dX7_read_37 : decode cX7_read 37 = .ok (.getfield 37, 3) := by decide +kernel
theorem dX7_read_40 : decode cX7_read 40 = .ok (.iconst 1, 1) := by decide +kernel
theorem dX7_read_41 : decode cX7_read 41 = .ok (.iadd, 1) := by decide +kernel
theorem dX7_read_42 : decode cX7_read 42 = .ok (.putfield 37, 3) := by decide +kernel
theorem dX7_read_45 : decode cX7_read 45 = .ok (.iconst 0, 1) := by decide +kernel
theorem dX7_read_46 : decode cX7_read 46 = .ok (.istore_n 3, 1) := by decide +kernel
theorem dX7_read_47 : decode cX7_read 47 = .ok (.iload_n 3, 1) := by decide +kernel
theorem dX7_read_48 : decode cX7_read 48 = .ok (.bipush 101, 2) := by decide +kernel
theorem dX7_read_50 : decode cX7_read 50 = .ok (.if_icmp .ge 81, 3) := by decide +kernel
theorem dX7_read_53 : decode cX7_read 53 = .ok (.aload_n 0, 1) := by decide +kernel
theorem dX7_read_54 : decode cX7_read 54 = .ok (.getfield 34, 3) := by decide +kernel
theorem dX7_read_57 : decode cX7_read 57 = .ok (.ifCond .ne 74, 3) := by decide +kernel
theorem dX7_read_60 : decode cX7_read 60 = .ok (.iload_n 2, 1) := by decide +kernel
theorem dX7_read_61 : decode cX7_read 61 = .ok (.iconst (-1), 1) := by decide +kernel
theorem dX7_read_62 : decode cX7_read 62 = .ok (.if_icmp .eq 69, 3) := by decide +kernel
theorem dX7_read_65 : decode cX7_read 65 = .ok (.aload_n 0, 1) := by decide +kernel
theorem dX7_read_66 : decode cX7_read 66 = .ok (.iload_n 2, 1) := by decide +kernel
theorem dX7_read_67 : decode cX7_read 67 = .ok (.bipush 45, 2) := by decide +kernel
theorem dX7_read_69 : decode cX7_read 69 = .ok (.if_icmp .ne 7, 3) := by decide +kernel
theorem dX7_read_72 : decode cX7_read 72 = .ok (.iconst 1, 1) := by decide +kernel
theorem dX7_read_73 : decode cX7_read 73 = .ok (.goto 4, 3) := by decide +kernel
theorem dX7_read_76 : decode cX7_read 76 = .ok (.iconst 0, 1) := by decide +kernel
theorem dX7_read_77 : decode cX7_read 77 = .ok (.aload_n 1, 1) := by decide +kernel
theorem dX7_read_78 : decode cX7_read 78 = .ok (.invokevirtual 47, 3) := by decide +kernel
theorem dX7_read_81 : decode cX7_read 81 = .ok (.aload_n 0, 1) := by decide +kernel
theorem dX7_read_82 : decode cX7_read 82 = .ok (.invokevirtual 43, 3) := by decide +kernel
theorem dX7_read_85 : decode cX7_read 85 = .ok (.istore_n 2, 1) := by decide +kernel
theorem dX7_read_86 : decode cX7_read 86 = .ok (.iload_n 2, 1) := by decide +kernel
theorem dX7_read_87 : decode cX7_read 87 = .ok (.bipush 43, 2) := by decide +kernel
theorem dX7_read_89 : decode cX7_read 89 = .ok (.if_icmp .eq 9, 3) := by decide +kernel
theorem dX7_read_92 : decode cX7_read 92 = .ok (.iload_n 2, 1) := by decide +kernel
theorem dX7_read_93 : decode cX7_read 93 = .ok (.bipush 45, 2) := by decide +kernel
theorem dX7_read_95 : decode cX7_read 95 = .ok (.if_icmp .ne 16, 3) := by decide +kernel
theorem dX7_read_98 : decode cX7_read 98 = .ok (.aload_n 0, 1) := by decide +kernel
theorem dX7_read_99 : decode cX7_read 99 = .ok (.dup, 1) := by decide +kernel
theorem dX7_read_100 : decode cX7_read 100 = .ok (.getfield 37, 3) := by decide +kernel
theorem dX7_read_103 : decode cX7_read 103 = .ok (.iconst 1, 1) := by decide +kernel
theorem dX7_read_104 : decode cX7_read 104 = .ok (.iadd, 1) := by decide +kernel
theorem dX7_read_105 : decode cX7_read 105 = .ok (.putfield 37, 3) := by decide +kernel
theorem dX7_read_108 : decode cX7_read 108 = .ok (.goto 17, 3) := by decide +kernel
theorem dX7_read_111 : decode cX7_read 111 = .ok (.iload_n 2, 1) := by decide +kernel
theorem dX7_read_112 : decode cX7_read 112 = .ok (.iconst (-1), 1) := by decide +kernel
theorem dX7_read_113 : decode cX7_read 113 = .ok (.if_icmp .eq 12, 3) := by decide +kernel
theorem dX7_read_116 : decode cX7_read 116 = .ok (.aload_n 0, 1) := by decide +kernel
theorem dX7_read_117 : decode cX7_read 117 = .ok (.iconst 1, 1) := by decide +kernel
theorem dX7_read_118 : decode cX7_read 118 = .ok (.aload_n 0, 1) := by decide +kernel
theorem dX7_read_119 : decode cX7_read 119 = .ok (.getfield 37, 3) := by decide +kernel
theorem dX7_read_122 : decode cX7_read 122 = .ok (.invokevirtual 51, 3) := by decide +kernel
theorem dX7_read_125 : decode cX7_read 125 = .ok (.iinc 3 1, 3) := by decide +kernel
theorem dX7_read_128 : decode cX7_read 128 = .ok (.goto (-81), 3) := by decide +kernel
theorem dX7_read_131 : decode cX7_read 131 = .ok (.aload_n 0, 1) := by decide +kernel
theorem dX7_read_132 : decode cX7_read 132 = .ok (.getfield 24, 3) := by decide +kernel
theorem dX7_read_135 : decode cX7_read 135 = .ok (.invokevirtual 55, 3) := by decide +kernel
theorem dX7_read_138 : decode cX7_read 138 = .ok (.aload_n 0, 1) := by decide +kernel
theorem dX7_read_139 : decode cX7_read 139 = .ok (.getfield 24, 3) := by decide +kernel
theorem dX7_read_142 : decode cX7_read 142 = .ok (.getfield 58, 3) := by decide +kernel
theorem dX7_read_145 : decode cX7_read 145 = .ok (.bipush 60, 2) := by decide +kernel
theorem dX7_read_147 : decode cX7_read 147 = .ok (.if_icmp .le 12, 3) := by decide +kernel
theorem dX7_read_150 : decode cX7_read 150 = .ok (.aload_n 0, 1) := by decide +kernel
theorem dX7_read_151 : decode cX7_read 151 = .ok (.iconst 3, 1) := by decide +kernel
theorem dX7_read_152 : decode cX7_read 152 = .ok (.aload_n 0, 1) := by decide +kernel
theorem dX7_read_153 : decode cX7_read 153 = .ok (.getfield 31, 3) := by decide +kernel
theorem dX7_read_156 : decode cX7_read 156 = .ok (.invokevirtual 51, 3) := by decide +kernel
theorem dX7_read_159 : decode cX7_read 159 = .ok (.return_, 1) := by decide +kernel
theorem dX7_readSummand_0 : decode cX7_readSummand 0 = .ok (.aload_n 0, 1) := by decide +kernel
theorem dX7_readSummand_1 : decode cX7_readSummand 1 = .ok (.iconst 1, 1) := by decide +kernel
theorem dX7_readSummand_2 : decode cX7_readSummand 2 = .ok (.putfield 59, 3) := by decide +kernel
theorem dX7_readSummand_5 : decode cX7_readSummand 5 = .ok (.aload_n 0, 1) := by decide +kernel
theorem dX7_readSummand_6 : decode cX7_readSummand 6 = .ok (.getfield 28, 3) := by decide +kernel
theorem dX7_readSummand_9 : decode cX7_readSummand 9 = .ok (.iconst 0, 1) := by decide +kernel
theorem dX7_readSummand_10 : decode cX7_readSummand 10 = .ok (.invokestatic 62, 3) := by decide +kernel
theorem dX7_readSummand_13 : decode cX7_readSummand 13 = .ok (.aload_n 0, 1) := by decide +kernel
theorem dX7_readSummand_14 : decode cX7_readSummand 14 = .ok (.aload_n 2, 1) := by decide +kernel
theorem dX7_readSummand_15 : decode cX7_readSummand 15 = .ok (.invokevirtual 68, 3) := by decide +kernel
theorem dX7_readSummand_18 : decode cX7_readSummand 18 = .ok (.ifCond .ne 12, 3) := by decide +kernel
theorem dX7_readSummand_21 : decode cX7_readSummand 21 = .ok (.aload_n 0, 1) := by decide +kernel
theorem dX7_readSummand_22 : decode cX7_readSummand 22 = .ok (.iconst 1, 1) := by decide +kernel
theorem dX7_readSummand_23 : decode cX7_readSummand 23 = .ok (.aload_n 0, 1) := by decide +kernel
theorem dX7_readSummand_24 : decode cX7_readSummand 24 = .ok (.getfield 37, 3) := by decide +kernel
theorem dX7_readSummand_27 : decode cX7_readSummand 27 = .ok (.invokevirtual 51, 3) := by decide +kernel
theorem dX7_readSummand_30 : decode cX7_readSummand 30 = .ok (.iconst 0, 1) := by decide +kernel
theorem dX7_readSummand_31 : decode cX7_readSummand 31 = .ok (.istore_n 3, 1) := by decide +kernel
theorem dX7_readSummand_32 : decode cX7_readSummand 32 = .ok (.iload_n 3, 1) := by decide +kernel
theorem dX7_readSummand_33 : decode cX7_readSummand 33 = .ok (.sipush 200, 3) := by decide +kernel
theorem dX7_readSummand_36 : decode cX7_readSummand 36 = .ok (.if_icmp .ge 29, 3) := by decide +kernel
theorem dX7_readSummand_39 : decode cX7_readSummand 39 = .ok (.aload_n 0, 1) := by decide +kernel
theorem dX7_readSummand_40 : decode cX7_readSummand 40 = .ok (.getfield 34, 3) := by decide +kernel
theorem dX7_readSummand_43 : decode cX7_readSummand 43 = .ok (.ifCond .ne 22, 3) := by decide +kernel
theorem dX7_readSummand_46 : decode cX7_readSummand 46 = .ok (.aload_n 0, 1) := by decide +kernel
theorem dX7_readSummand_47 : decode cX7_readSummand 47 = .ok (.aload_n 2, 1) := by decide +kernel
theorem dX7_readSummand_48 : decode cX7_readSummand 48 = .ok (.invokevirtual 68, 3) := by decide +kernel
theorem dX7_readSummand_51 : decode cX7_readSummand 51 = .ok (.ifCond .eq 14, 3) := by decide +kernel
theorem dX7_readSummand_54 : decode cX7_readSummand 54 = .ok (.aload_n 0, 1) := by decide +kernel
theorem dX7_readSummand_55 : decode cX7_readSummand 55 = .ok (.aload_n 2, 1) := by decide +kernel
theorem dX7_readSummand_56 : decode cX7_readSummand 56 = .ok (.invokevirtual 72, 3) := by decide +kernel
theorem dX7_readSummand_59 : decode cX7_readSummand 59 = .ok (.iinc 3 1, 3) := by decide +kernel
theorem dX7_readSummand_62 : decode cX7_readSummand 62 = .ok (.goto (-30), 3) := by decide +kernel
theorem dX7_readSummand_65 : decode cX7_readSummand 65 = .ok (.aload_n 2, 1) := by decide +kernel
theorem dX7_readSummand_66 : decode cX7_readSummand 66 = .ok (.aload_n 0, 1) := by decide +kernel
theorem dX7_readSummand_67 : decode cX7_readSummand 67 = .ok (.getfield 28, 3) := by decide +kernel
theorem dX7_readSummand_70 : decode cX7_readSummand 70 = .ok (.iconst 0, 1) := by decide +kernel
theorem dX7_readSummand_71 : decode cX7_readSummand 71 = .ok (.iaload, 1) := by decide +kernel
theorem dX7_readSummand_72 : decode cX7_readSummand 72 = .ok (.aload_n 0, 1) := by decide +kernel
theorem dX7_readSummand_73 : decode cX7_readSummand 73 = .ok (.getfield 28, 3) := by decide +kernel
theorem dX7_readSummand_76 : decode cX7_readSummand 76 = .ok (.iconst 1, 1) := by decide +kernel
theorem dX7_readSummand_77 : decode cX7_readSummand 77 = .ok (.iaload, 1) := by decide +kernel
theorem dX7_readSummand_78 : decode cX7_readSummand 78 = .ok (.aload_n 0, 1) := by decide +kernel
theorem dX7_readSummand_79 : decode cX7_readSummand 79 = .ok (.getfield 28, 3) := by decide +kernel
theorem dX7_readSummand_82 : decode cX7_readSummand 82 = .ok (.iconst 2, 1) := by decide +kernel
theorem dX7_readSummand_83 : decode cX7_readSummand 83 = .ok (.iaload, 1) := by decide +kernel
theorem dX7_readSummand_84 : decode cX7_readSummand 84 = .ok (.invokevirtual 76, 3) := by decide +kernel
theorem dX7_readSummand_87 : decode cX7_readSummand 87 = .ok (.istore_n 3, 1) := by decide +kernel
theorem dX7_readSummand_88 : decode cX7_readSummand 88 = .ok (.aload_n 0, 1) := by decide +kernel
theorem dX7_readSummand_89 : decode cX7_readSummand 89 = .ok (.getfield 34, 3) := by decide +kernel
theorem dX7_readSummand_92 : decode cX7_readSummand 92 = .ok (.ifCond .ne 37, 3) := by decide +kernel
theorem dX7_readSummand_95 : decode cX7_readSummand 95 = .ok (.aload_n 0, 1) := by decide +kernel
theorem dX7_readSummand_96 : decode cX7_readSummand 96 = .ok (.getfield 24, 3) := by decide +kernel
theorem dX7_readSummand_99 : decode cX7_readSummand 99 = .ok (.iload_n 3, 1) := by decide +kernel
theorem dX7_readSummand_100 : decode cX7_readSummand 100 = .ok (.iload_n 1, 1) := by decide +kernel
theorem dX7_readSummand_101 : decode cX7_readSummand 101 = .ok (.ifCond .eq 17, 3) := by decide +kernel
theorem dX7_readSummand_104 : decode cX7_readSummand 104 = .ok (.aload_n 2, 1) := by decide +kernel
theorem dX7_readSummand_105 : decode cX7_readSummand 105 = .ok (.getfield 82, 3) := by decide +kernel
theorem dX7_readSummand_108 : decode cX7_readSummand 108 = .ok (.aload_n 0, 1) := by decide +kernel
theorem dX7_readSummand_109 : decode cX7_readSummand 109 = .ok (.getfield 59, 3) := by decide +kernel
theorem dX7_readSummand_112 : decode cX7_readSummand 112 = .ok (.invokevirtual 86, 3) := by decide +kernel
theorem dX7_readSummand_115 : decode cX7_readSummand 115 = .ok (.goto 7, 3) := by decide +kernel
theorem dX7_readSummand_118 : decode cX7_readSummand 118 = .ok (.aload_n 0, 1) := by decide +kernel
theorem dX7_readSummand_119 : decode cX7_readSummand 119 = .ok (.getfield 59, 3) := by decide +kernel
theorem dX7_readSummand_122 : decode cX7_readSummand 122 = .ok (.aload_n 2, 1) := by decide +kernel
theorem dX7_readSummand_123 : decode cX7_readSummand 123 = .ok (.getfield 82, 3) := by decide +kernel
theorem dX7_readSummand_126 : decode cX7_readSummand 126 = .ok (.invokevirtual 92, 3) := by decide +kernel
theorem dX7_readSummand_129 : decode cX7_readSummand 129 = .ok (.return_, 1) := by decide +kernel
theorem dX7_factorIsAhead_0 : decode cX7_factorIsAhead 0 = .ok (.aload_n 0, 1) := by decide +kernel
theorem dX7_factorIsAhead_1 : decode cX7_factorIsAhead 1 = .ok (.invokevirtual 43, 3) := by decide +kernel
theorem dX7_factorIsAhead_4 : decode cX7_factorIsAhead 4 = .ok (.istore_n 2, 1) := by decide +kernel
theorem dX7_factorIsAhead_5 : decode cX7_factorIsAhead 5 = .ok (.iload_n 2, 1) := by decide +kernel
theorem dX7_factorIsAhead_6 : decode cX7_factorIsAhead 6 = .ok (.invokestatic 96, 3) := by decide +kernel
theorem dX7_factorIsAhead_9 : decode cX7_factorIsAhead 9 = .ok (.ifCond .ne 11, 3) := by decide +kernel
theorem dX7_factorIsAhead_12 : decode cX7_factorIsAhead 12 = .ok (.iload_n 2, 1) := by decide +kernel
theorem dX7_factorIsAhead_13 : decode cX7_factorIsAhead 13 = .ok (.aload_n 1, 1) := by decide +kernel
theorem dX7_factorIsAhead_14 : decode cX7_factorIsAhead 14 = .ok (.invokestatic 100, 3) := by decide +kernel
theorem dX7_factorIsAhead_17 : decode cX7_factorIsAhead 17 = .ok (.ifCond .eq 7, 3) := by decide +kernel
theorem dX7_factorIsAhead_20 : decode cX7_factorIsAhead 20 = .ok (.iconst 1, 1) := by decide +kernel
theorem dX7_factorIsAhead_21 : decode cX7_factorIsAhead 21 = .ok (.goto 4, 3) := by decide +kernel
theorem dX7_factorIsAhead_24 : decode cX7_factorIsAhead 24 = .ok (.iconst 0, 1) := by decide +kernel
theorem dX7_factorIsAhead_25 : decode cX7_factorIsAhead 25 = .ok (.ireturn, 1) := by decide +kernel
theorem dX7_readFactor_0 : decode cX7_readFactor 0 = .ok (.aload_n 0, 1) := by decide +kernel
theorem dX7_readFactor_1 : decode cX7_readFactor 1 = .ok (.invokevirtual 43, 3) := by decide +kernel
theorem dX7_readFactor_4 : decode cX7_readFactor 4 = .ok (.istore_n 2, 1) := by decide +kernel
theorem dX7_readFactor_5 : decode cX7_readFactor 5 = .ok (.iload_n 2, 1) := by decide +kernel
theorem dX7_readFactor_6 : decode cX7_readFactor 6 = .ok (.invokestatic 96, 3) := by decide +kernel
theorem dX7_readFactor_9 : decode cX7_readFactor 9 = .ok (.ifCond .eq 33, 3) := by decide +kernel
theorem dX7_readFactor_12 : decode cX7_readFactor 12 = .ok (.aload_n 0, 1) := by decide +kernel
theorem dX7_readFactor_13 : decode cX7_readFactor 13 = .ok (.aload_n 1, 1) := by decide +kernel
theorem dX7_readFactor_14 : decode cX7_readFactor 14 = .ok (.getfield 82, 3) := by decide +kernel
theorem dX7_readFactor_17 : decode cX7_readFactor 17 = .ok (.aload_n 0, 1) := by decide +kernel
theorem dX7_readFactor_18 : decode cX7_readFactor 18 = .ok (.getfield 59, 3) := by decide +kernel
theorem dX7_readFactor_21 : decode cX7_readFactor 21 = .ok (.aload_n 1, 1) := by decide +kernel
theorem dX7_readFactor_22 : decode cX7_readFactor 22 = .ok (.getfield 82, 3) := by decide +kernel
theorem dX7_readFactor_25 : decode cX7_readFactor 25 = .ok (.aload_n 0, 1) := by decide +kernel
theorem dX7_readFactor_26 : decode cX7_readFactor 26 = .ok (.iconst 5, 1) := by decide +kernel
theorem dX7_readFactor_27 : decode cX7_readFactor 27 = .ok (.invokevirtual 104, 3) := by decide +kernel
theorem dX7_readFactor_30 : decode cX7_readFactor 30 = .ok (.invokevirtual 107, 3) := by decide +kernel
theorem dX7_readFactor_33 : decode cX7_readFactor 33 = .ok (.invokevirtual 110, 3) := by decide +kernel
theorem dX7_readFactor_36 : decode cX7_readFactor 36 = .ok (.putfield 59, 3) := by decide +kernel
theorem dX7_readFactor_39 : decode cX7_readFactor 39 = .ok (.goto 19, 3) := by decide +kernel
theorem dX7_readFactor_42 : decode cX7_readFactor 42 = .ok (.iload_n 2, 1) := by decide +kernel
theorem dX7_readFactor_43 : decode cX7_readFactor 43 = .ok (.aload_n 1, 1) := by decide +kernel
theorem dX7_readFactor_44 : decode cX7_readFactor 44 = .ok (.invokestatic 100, 3) := by decide +kernel
theorem dX7_readFactor_47 : decode cX7_readFactor 47 = .ok (.ifCond .eq 11, 3) := by decide +kernel
theorem dX7_readFactor_50 : decode cX7_readFactor 50 = .ok (.aload_n 0, 1) := by decide +kernel
theorem dX7_readFactor_51 : decode cX7_readFactor 51 = .ok (.iload_n 2, 1) := by decide +kernel
theorem dX7_readFactor_52 : decode cX7_readFactor 52 = .ok (.bipush 120, 2) := by decide +kernel
theorem dX7_readFactor_54 : decode cX7_readFactor 54 = .ok (.isub, 1) := by decide +kernel
theorem dX7_readFactor_55 : decode cX7_readFactor 55 = .ok (.invokevirtual 114, 3) := by decide +kernel
theorem dX7_readFactor_58 : decode cX7_readFactor 58 = .ok (.return_, 1) := by decide +kernel
theorem dX7_readPower_0 : decode cX7_readPower 0 = .ok (.aload_n 0, 1) := by decide +kernel
theorem dX7_readPower_1 : decode cX7_readPower 1 = .ok (.getfield 37, 3) := by decide +kernel
theorem dX7_readPower_4 : decode cX7_readPower 4 = .ok (.istore_n 2, 1) := by decide +kernel
theorem dX7_readPower_5 : decode cX7_readPower 5 = .ok (.aload_n 0, 1) := by decide +kernel
theorem dX7_readPower_6 : decode cX7_readPower 6 = .ok (.dup, 1) := by decide +kernel
theorem dX7_readPower_7 : decode cX7_readPower 7 = .ok (.getfield 37, 3) := by decide +kernel
theorem dX7_readPower_10 : decode cX7_readPower 10 = .ok (.iconst 1, 1) := by decide +kernel
theorem dX7_readPower_11 : decode cX7_readPower 11 = .ok (.iadd, 1) := by decide +kernel
theorem dX7_readPower_12 : decode cX7_readPower 12 = .ok (.putfield 37, 3) := by decide +kernel
theorem dX7_readPower_15 : decode cX7_readPower 15 = .ok (.iconst 1, 1) := by decide +kernel
theorem dX7_readPower_16 : decode cX7_readPower 16 = .ok (.istore_n 3, 1) := by decide +kernel
theorem dX7_readPower_17 : decode cX7_readPower 17 = .ok (.aload_n 0, 1) := by decide +kernel
theorem dX7_readPower_18 : decode cX7_readPower 18 = .ok (.invokevirtual 43, 3) := by decide +kernel
theorem dX7_readPower_21 : decode cX7_readPower 21 = .ok (.bipush 94, 2) := by decide +kernel
theorem dX7_readPower_23 : decode cX7_readPower 23 = .ok (.if_icmp .ne 38, 3) := by decide +kernel
theorem dX7_readPower_26 : decode cX7_readPower 26 = .ok (.aload_n 0, 1) := by decide +kernel
theorem dX7_readPower_27 : decode cX7_readPower 27 = .ok (.dup, 1) := by decide +kernel
theorem dX7_readPower_28 : decode cX7_readPower 28 = .ok (.getfield 37, 3) := by decide +kernel
theorem dX7_readPower_31 : decode cX7_readPower 31 = .ok (.iconst 1, 1) := by decide +kernel
theorem dX7_readPower_32 : decode cX7_readPower 32 = .ok (.iadd, 1) := by decide +kernel
theorem dX7_readPower_33 : decode cX7_readPower 33 = .ok (.putfield 37, 3) := by decide +kernel
theorem dX7_readPower_36 : decode cX7_readPower 36 = .ok (.aload_n 0, 1) := by decide +kernel
theorem dX7_readPower_37 : decode cX7_readPower 37 = .ok (.invokevirtual 43, 3) := by decide +kernel
theorem dX7_readPower_40 : decode cX7_readPower 40 = .ok (.invokestatic 96, 3) := by decide +kernel
theorem dX7_readPower_43 : decode cX7_readPower 43 = .ok (.ifCond .ne 12, 3) := by decide +kernel
theorem dX7_readPower_46 : decode cX7_readPower 46 = .ok (.aload_n 0, 1) := by decide +kernel
theorem dX7_readPower_47 : decode cX7_readPower 47 = .ok (.iconst 1, 1) := by decide +kernel
theorem dX7_readPower_48 : decode cX7_readPower 48 = .ok (.aload_n 0, 1) := by decide +kernel
theorem dX7_readPower_49 : decode cX7_readPower 49 = .ok (.getfield 37, 3) := by decide +kernel
theorem dX7_readPower_52 : decode cX7_readPower 52 = .ok (.invokevirtual 51, 3) := by decide +kernel
theorem dX7_readPower_55 : decode cX7_readPower 55 = .ok (.aload_n 0, 1) := by decide +kernel
theorem dX7_readPower_56 : decode cX7_readPower 56 = .ok (.iconst 2, 1) := by decide +kernel
theorem dX7_readPower_57 : decode cX7_readPower 57 = .ok (.invokevirtual 104, 3) := by decide +kernel
theorem dX7_readPower_60 : decode cX7_readPower 60 = .ok (.istore_n 3, 1) := by decide +kernel
theorem dX7_readPower_61 : decode cX7_readPower 61 = .ok (.iload_n 1, 1) := by decide +kernel
theorem dX7_readPower_62 : decode cX7_readPower 62 = .ok (.ifCond .lt 35, 3) := by decide +kernel
theorem dX7_readPower_65 : decode cX7_readPower 65 = .ok (.iload_n 1, 1) := by decide +kernel
theorem dX7_readPower_66 : decode cX7_readPower 66 = .ok (.iconst 3, 1) := by decide +kernel
theorem dX7_readPower_67 : decode cX7_readPower 67 = .ok (.if_icmp .ge 30, 3) := by decide +kernel
theorem dX7_readPower_70 : decode cX7_readPower 70 = .ok (.aload_n 0, 1) := by decide +kernel
theorem dX7_readPower_71 : decode cX7_readPower 71 = .ok (.getfield 28, 3) := by decide +kernel
theorem dX7_readPower_74 : decode cX7_readPower 74 = .ok (.iload_n 1, 1) := by decide +kernel
theorem dX7_readPower_75 : decode cX7_readPower 75 = .ok (.dup2, 1) := by decide +kernel
theorem dX7_readPower_76 : decode cX7_readPower 76 = .ok (.iaload, 1) := by decide +kernel
theorem dX7_readPower_77 : decode cX7_readPower 77 = .ok (.iload_n 3, 1) := by decide +kernel
theorem dX7_readPower_78 : decode cX7_readPower 78 = .ok (.iadd, 1) := by decide +kernel
theorem dX7_readPower_79 : decode cX7_readPower 79 = .ok (.iastore, 1) := by decide +kernel
theorem dX7_readPower_80 : decode cX7_readPower 80 = .ok (.aload_n 0, 1) := by decide +kernel
theorem dX7_readPower_81 : decode cX7_readPower 81 = .ok (.getfield 28, 3) := by decide +kernel
theorem dX7_readPower_84 : decode cX7_readPower 84 = .ok (.iload_n 1, 1) := by decide +kernel
theorem dX7_readPower_85 : decode cX7_readPower 85 = .ok (.iaload, 1) := by decide +kernel
theorem dX7_readPower_86 : decode cX7_readPower 86 = .ok (.bipush 30, 2) := by decide +kernel
theorem dX7_readPower_88 : decode cX7_readPower 88 = .ok (.if_icmp .le 9, 3) := by decide +kernel
theorem dX7_readPower_91 : decode cX7_readPower 91 = .ok (.aload_n 0, 1) := by decide +kernel
theorem dX7_readPower_92 : decode cX7_readPower 92 = .ok (.iconst 2, 1) := by decide +kernel
theorem dX7_readPower_93 : decode cX7_readPower 93 = .ok (.iload_n 2, 1) := by decide +kernel
theorem dX7_readPower_94 : decode cX7_readPower 94 = .ok (.invokevirtual 51, 3) := by decide +kernel
theorem dX7_readPower_97 : decode cX7_readPower 97 = .ok (.return_, 1) := by decide +kernel
theorem dX7_readDigits_0 : decode cX7_readDigits 0 = .ok (.aload_n 0, 1) := by decide +kernel
theorem dX7_readDigits_1 : decode cX7_readDigits 1 = .ok (.getfield 37, 3) := by decide +kernel
theorem dX7_readDigits_4 : decode cX7_readDigits 4 = .ok (.istore_n 2, 1) := by decide +kernel
theorem dX7_readDigits_5 : decode cX7_readDigits 5 = .ok (.iconst 0, 1) := by decide +kernel
theorem dX7_readDigits_6 : decode cX7_readDigits 6 = .ok (.istore_n 3, 1) := by decide +kernel
theorem dX7_readDigits_7 : decode cX7_readDigits 7 = .ok (.aload_n 0, 1) := by decide +kernel
theorem dX7_readDigits_8 : decode cX7_readDigits 8 = .ok (.getfield 37, 3) := by decide +kernel
theorem dX7_readDigits_11 : decode cX7_readDigits 11 = .ok (.aload_n 0, 1) := by decide +kernel
theorem dX7_readDigits_12 : decode cX7_readDigits 12 = .ok (.getfield 31, 3) := by decide +kernel
theorem dX7_readDigits_15 : decode cX7_readDigits 15 = .ok (.if_icmp .ge 69, 3) := by decide +kernel
theorem dX7_readDigits_18 : decode cX7_readDigits 18 = .ok (.aload_n 0, 1) := by decide +kernel
theorem dX7_readDigits_19 : decode cX7_readDigits 19 = .ok (.getfield 37, 3) := by decide +kernel
theorem dX7_readDigits_22 : decode cX7_readDigits 22 = .ok (.sipush 200, 3) := by decide +kernel
theorem dX7_readDigits_25 : decode cX7_readDigits 25 = .ok (.if_icmp .ge 59, 3) := by decide +kernel
theorem dX7_readDigits_28 : decode cX7_readDigits 28 = .ok (.aload_n 0, 1) := by decide +kernel
theorem dX7_readDigits_29 : decode cX7_readDigits 29 = .ok (.getfield 9, 3) := by decide +kernel
theorem dX7_readDigits_32 : decode cX7_readDigits 32 = .ok (.aload_n 0, 1) := by decide +kernel
theorem dX7_readDigits_33 : decode cX7_readDigits 33 = .ok (.getfield 37, 3) := by decide +kernel
theorem dX7_readDigits_36 : decode cX7_readDigits 36 = .ok (.iaload, 1) := by decide +kernel
theorem dX7_readDigits_37 : decode cX7_readDigits 37 = .ok (.invokestatic 96, 3) := by decide +kernel
theorem dX7_readDigits_40 : decode cX7_readDigits 40 = .ok (.ifCond .eq 44, 3) := by decide +kernel
theorem dX7_readDigits_43 : decode cX7_readDigits 43 = .ok (.aload_n 0, 1) := by decide +kernel
theorem dX7_readDigits_44 : decode cX7_readDigits 44 = .ok (.getfield 37, 3) := by decide +kernel
theorem dX7_readDigits_47 : decode cX7_readDigits 47 = .ok (.iload_n 2, 1) := by decide +kernel
theorem dX7_readDigits_48 : decode cX7_readDigits 48 = .ok (.isub, 1) := by decide +kernel
theorem dX7_readDigits_49 : decode cX7_readDigits 49 = .ok (.iload_n 1, 1) := by decide +kernel
theorem dX7_readDigits_50 : decode cX7_readDigits 50 = .ok (.if_icmp .ge 21, 3) := by decide +kernel
theorem dX7_readDigits_53 : decode cX7_readDigits 53 = .ok (.bipush 10, 2) := by decide +kernel
theorem dX7_readDigits_55 : decode cX7_readDigits 55 = .ok (.iload_n 3, 1) := by decide +kernel
theorem dX7_readDigits_56 : decode cX7_readDigits 56 = .ok (.imul, 1) := by decide +kernel
theorem dX7_readDigits_57 : decode cX7_readDigits 57 = .ok (.aload_n 0, 1) := by decide +kernel
theorem dX7_readDigits_58 : decode cX7_readDigits 58 = .ok (.getfield 9, 3) := by decide +kernel
theorem dX7_readDigits_61 : decode cX7_readDigits 61 = .ok (.aload_n 0, 1) := by decide +kernel
theorem dX7_readDigits_62 : decode cX7_readDigits 62 = .ok (.getfield 37, 3) := by decide +kernel
theorem dX7_readDigits_65 : decode cX7_readDigits 65 = .ok (.iaload, 1) := by decide +kernel
theorem dX7_readDigits_66 : decode cX7_readDigits 66 = .ok (.iadd, 1) := by decide +kernel
theorem dX7_readDigits_67 : decode cX7_readDigits 67 = .ok (.bipush 48, 2) := by decide +kernel
theorem dX7_readDigits_69 : decode cX7_readDigits 69 = .ok (.isub, 1) := by decide +kernel
theorem dX7_readDigits_70 : decode cX7_readDigits 70 = .ok (.istore_n 3, 1) := by decide +kernel
theorem dX7_readDigits_71 : decode cX7_readDigits 71 = .ok (.aload_n 0, 1) := by decide +kernel
theorem dX7_readDigits_72 : decode cX7_readDigits 72 = .ok (.dup, 1) := by decide +kernel
theorem dX7_readDigits_73 : decode cX7_readDigits 73 = .ok (.getfield 37, 3) := by decide +kernel
theorem dX7_readDigits_76 : decode cX7_readDigits 76 = .ok (.iconst 1, 1) := by decide +kernel
theorem dX7_readDigits_77 : decode cX7_readDigits 77 = .ok (.iadd, 1) := by decide +kernel
theorem dX7_readDigits_78 : decode cX7_readDigits 78 = .ok (.putfield 37, 3) := by decide +kernel
theorem dX7_readDigits_81 : decode cX7_readDigits 81 = .ok (.goto (-74), 3) := by decide +kernel
theorem dX7_readDigits_84 : decode cX7_readDigits 84 = .ok (.aload_n 0, 1) := by decide +kernel
theorem dX7_readDigits_85 : decode cX7_readDigits 85 = .ok (.getfield 37, 3) := by decide +kernel
theorem dX7_readDigits_88 : decode cX7_readDigits 88 = .ok (.iload_n 2, 1) := by decide +kernel
theorem dX7_readDigits_89 : decode cX7_readDigits 89 = .ok (.isub, 1) := by decide +kernel
theorem dX7_readDigits_90 : decode cX7_readDigits 90 = .ok (.iload_n 1, 1) := by decide +kernel
theorem dX7_readDigits_91 : decode cX7_readDigits 91 = .ok (.if_icmp .le 9, 3) := by decide +kernel
theorem dX7_readDigits_94 : decode cX7_readDigits 94 = .ok (.aload_n 0, 1) := by decide +kernel
theorem dX7_readDigits_95 : decode cX7_readDigits 95 = .ok (.iconst 1, 1) := by decide +kernel
theorem dX7_readDigits_96 : decode cX7_readDigits 96 = .ok (.iload_n 2, 1) := by decide +kernel
theorem dX7_readDigits_97 : decode cX7_readDigits 97 = .ok (.invokevirtual 51, 3) := by decide +kernel
theorem dX7_readDigits_100 : decode cX7_readDigits 100 = .ok (.iload_n 3, 1) := by decide +kernel
theorem dX7_readDigits_101 : decode cX7_readDigits 101 = .ok (.ireturn, 1) := by decide +kernel
theorem dX7_ahead_0 : decode cX7_ahead 0 = .ok (.aload_n 0, 1) := by decide +kernel
theorem dX7_ahead_1 : decode cX7_ahead 1 = .ok (.getfield 37, 3) := by decide +kernel
theorem dX7_ahead_4 : decode cX7_ahead 4 = .ok (.aload_n 0, 1) := by decide +kernel
theorem dX7_ahead_5 : decode cX7_ahead 5 = .ok (.getfield 31, 3) := by decide +kernel
theorem dX7_ahead_8 : decode cX7_ahead 8 = .ok (.if_icmp .ge 40, 3) := by decide +kernel
theorem dX7_ahead_11 : decode cX7_ahead 11 = .ok (.aload_n 0, 1) := by decide +kernel
theorem dX7_ahead_12 : decode cX7_ahead 12 = .ok (.getfield 37, 3) := by decide +kernel
theorem dX7_ahead_15 : decode cX7_ahead 15 = .ok (.sipush 200, 3) := by decide +kernel
theorem dX7_ahead_18 : decode cX7_ahead 18 = .ok (.if_icmp .ge 30, 3) := by decide +kernel
theorem dX7_ahead_21 : decode cX7_ahead 21 = .ok (.aload_n 0, 1) := by decide +kernel
theorem dX7_ahead_22 : decode cX7_ahead 22 = .ok (.getfield 9, 3) := by decide +kernel
theorem dX7_ahead_25 : decode cX7_ahead 25 = .ok (.aload_n 0, 1) := by decide +kernel
theorem dX7_ahead_26 : decode cX7_ahead 26 = .ok (.getfield 37, 3) := by decide +kernel
theorem dX7_ahead_29 : decode cX7_ahead 29 = .ok (.iaload, 1) := by decide +kernel
theorem dX7_ahead_30 : decode cX7_ahead 30 = .ok (.bipush 32, 2) := by decide +kernel
theorem dX7_ahead_32 : decode cX7_ahead 32 = .ok (.if_icmp .ne 16, 3) := by decide +kernel
theorem dX7_ahead_35 : decode cX7_ahead 35 = .ok (.aload_n 0, 1) := by decide +kernel
theorem dX7_ahead_36 : decode cX7_ahead 36 = .ok (.dup, 1) := by decide +kernel
theorem dX7_ahead_37 : decode cX7_ahead 37 = .ok (.getfield 37, 3) := by decide +kernel
theorem dX7_ahead_40 : decode cX7_ahead 40 = .ok (.iconst 1, 1) := by decide +kernel
theorem dX7_ahead_41 : decode cX7_ahead 41 = .ok (.iadd, 1) := by decide +kernel
theorem dX7_ahead_42 : decode cX7_ahead 42 = .ok (.putfield 37, 3) := by decide +kernel
theorem dX7_ahead_45 : decode cX7_ahead 45 = .ok (.goto (-45), 3) := by decide +kernel
theorem dX7_ahead_48 : decode cX7_ahead 48 = .ok (.aload_n 0, 1) := by decide +kernel
theorem dX7_ahead_49 : decode cX7_ahead 49 = .ok (.getfield 37, 3) := by decide +kernel
theorem dX7_ahead_52 : decode cX7_ahead 52 = .ok (.aload_n 0, 1) := by decide +kernel
theorem dX7_ahead_53 : decode cX7_ahead 53 = .ok (.getfield 31, 3) := by decide +kernel
theorem dX7_ahead_56 : decode cX7_ahead 56 = .ok (.if_icmp .ge 25, 3) := by decide +kernel
theorem dX7_ahead_59 : decode cX7_ahead 59 = .ok (.aload_n 0, 1) := by decide +kernel
theorem dX7_ahead_60 : decode cX7_ahead 60 = .ok (.getfield 37, 3) := by decide +kernel
theorem dX7_ahead_63 : decode cX7_ahead 63 = .ok (.sipush 200, 3) := by decide +kernel
theorem dX7_ahead_66 : decode cX7_ahead 66 = .ok (.if_icmp .ge 15, 3) := by decide +kernel
theorem dX7_ahead_69 : decode cX7_ahead 69 = .ok (.aload_n 0, 1) := by decide +kernel
theorem dX7_ahead_70 : decode cX7_ahead 70 = .ok (.getfield 9, 3) := by decide +kernel
theorem dX7_ahead_73 : decode cX7_ahead 73 = .ok (.aload_n 0, 1) := by decide +kernel
theorem dX7_ahead_74 : decode cX7_ahead 74 = .ok (.getfield 37, 3) := by decide +kernel
theorem dX7_ahead_77 : decode cX7_ahead 77 = .ok (.iaload, 1) := by decide +kernel
theorem dX7_ahead_78 : decode cX7_ahead 78 = .ok (.goto 4, 3) := by decide +kernel
theorem dX7_ahead_81 : decode cX7_ahead 81 = .ok (.iconst (-1), 1) := by decide +kernel
theorem dX7_ahead_82 : decode cX7_ahead 82 = .ok (.ireturn, 1) := by decide +kernel
theorem dX7_blame_0 : decode cX7_blame 0 = .ok (.aload_n 0, 1) := by decide +kernel
theorem dX7_blame_1 : decode cX7_blame 1 = .ok (.getfield 34, 3) := by decide +kernel
theorem dX7_blame_4 : decode cX7_blame 4 = .ok (.ifCond .ne 13, 3) := by decide +kernel
theorem dX7_blame_7 : decode cX7_blame 7 = .ok (.aload_n 0, 1) := by decide +kernel
theorem dX7_blame_8 : decode cX7_blame 8 = .ok (.iload_n 1, 1) := by decide +kernel
theorem dX7_blame_9 : decode cX7_blame 9 = .ok (.putfield 34, 3) := by decide +kernel
theorem dX7_blame_12 : decode cX7_blame 12 = .ok (.aload_n 0, 1) := by decide +kernel
theorem dX7_blame_13 : decode cX7_blame 13 = .ok (.iload_n 2, 1) := by decide +kernel
theorem dX7_blame_14 : decode cX7_blame 14 = .ok (.putfield 15, 3) := by decide +kernel
theorem dX7_blame_17 : decode cX7_blame 17 = .ok (.return_, 1) := by decide +kernel
theorem dX7_isDigit_0 : decode cX7_isDigit 0 = .ok (.iload_n 0, 1) := by decide +kernel
theorem dX7_isDigit_1 : decode cX7_isDigit 1 = .ok (.bipush 48, 2) := by decide +kernel
theorem dX7_isDigit_3 : decode cX7_isDigit 3 = .ok (.if_icmp .lt 13, 3) := by decide +kernel
theorem dX7_isDigit_6 : decode cX7_isDigit 6 = .ok (.iload_n 0, 1) := by decide +kernel
theorem dX7_isDigit_7 : decode cX7_isDigit 7 = .ok (.bipush 57, 2) := by decide +kernel
theorem dX7_isDigit_9 : decode cX7_isDigit 9 = .ok (.if_icmp .gt 7, 3) := by decide +kernel
theorem dX7_isDigit_12 : decode cX7_isDigit 12 = .ok (.iconst 1, 1) := by decide +kernel
theorem dX7_isDigit_13 : decode cX7_isDigit 13 = .ok (.goto 4, 3) := by decide +kernel
theorem dX7_isDigit_16 : decode cX7_isDigit 16 = .ok (.iconst 0, 1) := by decide +kernel
theorem dX7_isDigit_17 : decode cX7_isDigit 17 = .ok (.ireturn, 1) := by decide +kernel
theorem dX7_isVariable_0 : decode cX7_isVariable 0 = .ok (.iload_n 0, 1) := by decide +kernel
theorem dX7_isVariable_1 : decode cX7_isVariable 1 = .ok (.bipush 120, 2) := by decide +kernel
theorem dX7_isVariable_3 : decode cX7_isVariable 3 = .ok (.if_icmp .lt 18, 3) := by decide +kernel
theorem dX7_isVariable_6 : decode cX7_isVariable 6 = .ok (.iload_n 0, 1) := by decide +kernel
theorem dX7_isVariable_7 : decode cX7_isVariable 7 = .ok (.bipush 120, 2) := by decide +kernel
theorem dX7_isVariable_9 : decode cX7_isVariable 9 = .ok (.aload_n 1, 1) := by decide +kernel
theorem dX7_isVariable_10 : decode cX7_isVariable 10 = .ok (.getfield 117, 3) := by decide +kernel
theorem dX7_isVariable_13 : decode cX7_isVariable 13 = .ok (.iadd, 1) := by decide +kernel
theorem dX7_isVariable_14 : decode cX7_isVariable 14 = .ok (.if_icmp .ge 7, 3) := by decide +kernel
theorem dX7_isVariable_17 : decode cX7_isVariable 17 = .ok (.iconst 1, 1) := by decide +kernel
theorem dX7_isVariable_18 : decode cX7_isVariable 18 = .ok (.goto 4, 3) := by decide +kernel
theorem dX7_isVariable_21 : decode cX7_isVariable 21 = .ok (.iconst 0, 1) := by decide +kernel
theorem dX7_isVariable_22 : decode cX7_isVariable 22 = .ok (.ireturn, 1) := by decide +kernel
end
section
theorem dX8_init_0 : decode cX8_init 0 = .ok (.aload_n 0, 1) := by decide +kernel
theorem dX8_init_1 : decode cX8_init 1 = .ok (.invokespecial 3, 3) := by decide +kernel
theorem dX8_init_4 : decode cX8_init 4 = .ok (.aload_n 0, 1) := by decide +kernel
theorem dX8_init_5 : decode cX8_init 5 = .ok (.sipush 1080, 3) := by decide +kernel
theorem dX8_init_8 : decode cX8_init 8 = .ok (.newarray .int, 2) := by decide +kernel
theorem dX8_init_10 : decode cX8_init 10 = .ok (.putfield 9, 3) := by decide +kernel
theorem dX8_init_13 : decode cX8_init 13 = .ok (.return_, 1) := by decide +kernel
theorem dX8_write_0 : decode cX8_write 0 = .ok (.aload_n 0, 1) := by decide +kernel
theorem dX8_write_1 : decode cX8_write 1 = .ok (.iconst 0, 1) := by decide +kernel
theorem dX8_write_2 : decode cX8_write 2 = .ok (.putfield 15, 3) := by decide +kernel
theorem dX8_write_5 : decode cX8_write 5 = .ok (.aload_n 1, 1) := by decide +kernel
theorem dX8_write_6 : decode cX8_write 6 = .ok (.getfield 19, 3) := by decide +kernel
theorem dX8_write_9 : decode cX8_write 9 = .ok (.ifCond .ne 9, 3) := by decide +kernel
theorem dX8_write_12 : decode cX8_write 12 = .ok (.aload_n 0, 1) := by decide +kernel
theorem dX8_write_13 : decode cX8_write 13 = .ok (.bipush 48, 2) := by decide +kernel
theorem dX8_write_15 : decode cX8_write 15 = .ok (.invokevirtual 22, 3) := by decide +kernel
theorem dX8_write_18 : decode cX8_write 18 = .ok (.iconst 0, 1) := by decide +kernel
theorem dX8_write_19 : decode cX8_write 19 = .ok (.istore_n 2, 1) := by decide +kernel
theorem dX8_write_20 : decode cX8_write 20 = .ok (.iload_n 2, 1) := by decide +kernel
theorem dX8_write_21 : decode cX8_write 21 = .ok (.aload_n 1, 1) := by decide +kernel
theorem dX8_write_22 : decode cX8_write 22 = .ok (.getfield 19, 3) := by decide +kernel
theorem dX8_write_25 : decode cX8_write 25 = .ok (.if_icmp .ge 79, 3) := by decide +kernel
theorem dX8_write_28 : decode cX8_write 28 = .ok (.iload_n 2, 1) := by decide +kernel
theorem dX8_write_29 : decode cX8_write 29 = .ok (.ifCond .le 9, 3) := by decide +kernel
theorem dX8_write_32 : decode cX8_write 32 = .ok (.aload_n 0, 1) := by decide +kernel
theorem dX8_write_33 : decode cX8_write 33 = .ok (.bipush 43, 2) := by decide +kernel
theorem dX8_write_35 : decode cX8_write 35 = .ok (.invokevirtual 22, 3) := by decide +kernel
theorem dX8_write_38 : decode cX8_write 38 = .ok (.aload_n 1, 1) := by decide +kernel
theorem dX8_write_39 : decode cX8_write 39 = .ok (.getfield 26, 3) := by decide +kernel
theorem dX8_write_42 : decode cX8_write 42 = .ok (.iload_n 2, 1) := by decide +kernel
theorem dX8_write_43 : decode cX8_write 43 = .ok (.iaload, 1) := by decide +kernel
theorem dX8_write_44 : decode cX8_write 44 = .ok (.istore_n 3, 1) := by decide +kernel
theorem dX8_write_45 : decode cX8_write 45 = .ok (.aload_n 1, 1) := by decide +kernel
theorem dX8_write_46 : decode cX8_write 46 = .ok (.getfield 29, 3) := by decide +kernel
theorem dX8_write_49 : decode cX8_write 49 = .ok (.iload_n 2, 1) := by decide +kernel
theorem dX8_write_50 : decode cX8_write 50 = .ok (.iaload, 1) := by decide +kernel
theorem dX8_write_51 : decode cX8_write 51 = .ok (.iconst 1, 1) := by decide +kernel
theorem dX8_write_52 : decode cX8_write 52 = .ok (.if_icmp .ne 9, 3) := by decide +kernel
theorem dX8_write_55 : decode cX8_write 55 = .ok (.iload_n 3, 1) := by decide +kernel
theorem dX8_write_56 : decode cX8_write 56 = .ok (.ldc 34, 2) := by decide +kernel
theorem dX8_write_58 : decode cX8_write 58 = .ok (.if_icmp .ne 13, 3) := by decide +kernel
theorem dX8_write_61 : decode cX8_write 61 = .ok (.aload_n 0, 1) := by decide +kernel
theorem dX8_write_62 : decode cX8_write 62 = .ok (.aload_n 1, 1) := by decide +kernel
theorem dX8_write_63 : decode cX8_write 63 = .ok (.getfield 29, 3) := by decide +kernel
theorem dX8_write_66 : decode cX8_write 66 = .ok (.iload_n 2, 1) := by decide +kernel
theorem dX8_write_67 : decode cX8_write 67 = .ok (.iaload, 1) := by decide +kernel
theorem dX8_write_68 : decode cX8_write 68 = .ok (.invokevirtual 35, 3) := by decide +kernel
theorem dX8_write_71 : decode cX8_write 71 = .ok (.iconst 0, 1) := by decide +kernel
theorem dX8_write_72 : decode cX8_write 72 = .ok (.istore 4, 2) := by decide +kernel
theorem dX8_write_74 : decode cX8_write 74 = .ok (.iload 4, 2) := by decide +kernel
theorem dX8_write_76 : decode cX8_write 76 = .ok (.iconst 3, 1) := by decide +kernel
theorem dX8_write_77 : decode cX8_write 77 = .ok (.if_icmp .ge 21, 3) := by decide +kernel
theorem dX8_write_80 : decode cX8_write 80 = .ok (.aload_n 0, 1) := by decide +kernel
theorem dX8_write_81 : decode cX8_write 81 = .ok (.iload 4, 2) := by decide +kernel
theorem dX8_write_83 : decode cX8_write 83 = .ok (.iload_n 3, 1) := by decide +kernel
theorem dX8_write_84 : decode cX8_write 84 = .ok (.iload 4, 2) := by decide +kernel
theorem dX8_write_86 : decode cX8_write 86 = .ok (.invokestatic 38, 3) := by decide +kernel
theorem dX8_write_89 : decode cX8_write 89 = .ok (.invokevirtual 42, 3) := by decide +kernel
theorem dX8_write_92 : decode cX8_write 92 = .ok (.iinc 4 1, 3) := by decide +kernel
theorem dX8_write_95 : decode cX8_write 95 = .ok (.goto (-21), 3) := by decide +kernel
theorem dX8_write_98 : decode cX8_write 98 = .ok (.iinc 2 1, 3) := by decide +kernel
theorem dX8_write_101 : decode cX8_write 101 = .ok (.goto (-81), 3) := by decide +kernel
theorem dX8_write_104 : decode cX8_write 104 = .ok (.return_, 1) := by decide +kernel
theorem dX8_putPower_0 : decode cX8_putPower 0 = .ok (.iload_n 2, 1) := by decide +kernel
theorem dX8_putPower_1 : decode cX8_putPower 1 = .ok (.ifCond .le 11, 3) := by decide +kernel
theorem dX8_putPower_4 : decode cX8_putPower 4 = .ok (.aload_n 0, 1) := by decide +kernel
theorem dX8_putPower_5 : decode cX8_putPower 5 = .ok (.bipush 120, 2) := by decide +kernel
theorem dX8_putPower_7 : decode cX8_putPower 7 = .ok (.iload_n 1, 1) := by decide +kernel
theorem dX8_putPower_8 : decode cX8_putPower 8 = .ok (.iadd, 1) := by decide +kernel
theorem dX8_putPower_9 : decode cX8_putPower 9 = .ok (.invokevirtual 22, 3) := by decide +kernel
theorem dX8_putPower_12 : decode cX8_putPower 12 = .ok (.iload_n 2, 1) := by decide +kernel
theorem dX8_putPower_13 : decode cX8_putPower 13 = .ok (.iconst 1, 1) := by decide +kernel
theorem dX8_putPower_14 : decode cX8_putPower 14 = .ok (.if_icmp .le 14, 3) := by decide +kernel
theorem dX8_putPower_17 : decode cX8_putPower 17 = .ok (.aload_n 0, 1) := by decide +kernel
theorem dX8_putPower_18 : decode cX8_putPower 18 = .ok (.bipush 94, 2) := by decide +kernel
theorem dX8_putPower_20 : decode cX8_putPower 20 = .ok (.invokevirtual 22, 3) := by decide +kernel
theorem dX8_putPower_23 : decode cX8_putPower 23 = .ok (.aload_n 0, 1) := by decide +kernel
theorem dX8_putPower_24 : decode cX8_putPower 24 = .ok (.iload_n 2, 1) := by decide +kernel
theorem dX8_putPower_25 : decode cX8_putPower 25 = .ok (.invokevirtual 35, 3) := by decide +kernel
theorem dX8_putPower_28 : decode cX8_putPower 28 = .ok (.return_, 1) := by decide +kernel
theorem dX8_putNumber_0 : decode cX8_putNumber 0 = .ok (.sipush 10000, 3) := by decide +kernel
theorem dX8_putNumber_3 : decode cX8_putNumber 3 = .ok (.istore_n 2, 1) := by decide +kernel
theorem dX8_putNumber_4 : decode cX8_putNumber 4 = .ok (.iload_n 2, 1) := by decide +kernel
theorem dX8_putNumber_5 : decode cX8_putNumber 5 = .ok (.ifCond .le 29, 3) := by decide +kernel
theorem dX8_putNumber_8 : decode cX8_putNumber 8 = .ok (.iload_n 1, 1) := by decide +kernel
theorem dX8_putNumber_9 : decode cX8_putNumber 9 = .ok (.iload_n 2, 1) := by decide +kernel
theorem dX8_putNumber_10 : decode cX8_putNumber 10 = .ok (.if_icmp .lt 16, 3) := by decide +kernel
theorem dX8_putNumber_13 : decode cX8_putNumber 13 = .ok (.aload_n 0, 1) := by decide +kernel
theorem dX8_putNumber_14 : decode cX8_putNumber 14 = .ok (.bipush 48, 2) := by decide +kernel
theorem dX8_putNumber_16 : decode cX8_putNumber 16 = .ok (.iload_n 1, 1) := by decide +kernel
theorem dX8_putNumber_17 : decode cX8_putNumber 17 = .ok (.iload_n 2, 1) := by decide +kernel
theorem dX8_putNumber_18 : decode cX8_putNumber 18 = .ok (.idiv, 1) := by decide +kernel
theorem dX8_putNumber_19 : decode cX8_putNumber 19 = .ok (.bipush 10, 2) := by decide +kernel
theorem dX8_putNumber_21 : decode cX8_putNumber 21 = .ok (.irem, 1) := by decide +kernel
theorem dX8_putNumber_22 : decode cX8_putNumber 22 = .ok (.iadd, 1) := by decide +kernel
theorem dX8_putNumber_23 : decode cX8_putNumber 23 = .ok (.invokevirtual 22, 3) := by decide +kernel
theorem dX8_putNumber_26 : decode cX8_putNumber 26 = .ok (.iload_n 2, 1) := by decide +kernel
theorem dX8_putNumber_27 : decode cX8_putNumber 27 = .ok (.bipush 10, 2) := by decide +kernel
theorem dX8_putNumber_29 : decode cX8_putNumber 29 = .ok (.idiv, 1) := by decide +kernel
theorem dX8_putNumber_30 : decode cX8_putNumber 30 = .ok (.istore_n 2, 1) := by decide +kernel
theorem dX8_putNumber_31 : decode cX8_putNumber 31 = .ok (.goto (-27), 3) := by decide +kernel
theorem dX8_putNumber_34 : decode cX8_putNumber 34 = .ok (.return_, 1) := by decide +kernel
theorem dX8_put_0 : decode cX8_put 0 = .ok (.aload_n 0, 1) := by decide +kernel
theorem dX8_put_1 : decode cX8_put 1 = .ok (.getfield 15, 3) := by decide +kernel
theorem dX8_put_4 : decode cX8_put 4 = .ok (.aload_n 0, 1) := by decide +kernel
theorem dX8_put_5 : decode cX8_put 5 = .ok (.getfield 9, 3) := by decide +kernel
theorem dX8_put_8 : decode cX8_put 8 = .ok (.arraylength, 1) := by decide +kernel
theorem dX8_put_9 : decode cX8_put 9 = .ok (.if_icmp .ge 23, 3) := by decide +kernel
theorem dX8_put_12 : decode cX8_put 12 = .ok (.aload_n 0, 1) := by decide +kernel
theorem dX8_put_13 : decode cX8_put 13 = .ok (.getfield 9, 3) := by decide +kernel
theorem dX8_put_16 : decode cX8_put 16 = .ok (.aload_n 0, 1) := by decide +kernel
theorem dX8_put_17 : decode cX8_put 17 = .ok (.getfield 15, 3) := by decide +kernel
theorem dX8_put_20 : decode cX8_put 20 = .ok (.iload_n 1, 1) := by decide +kernel
theorem dX8_put_21 : decode cX8_put 21 = .ok (.iastore, 1) := by decide +kernel
theorem dX8_put_22 : decode cX8_put 22 = .ok (.aload_n 0, 1) := by decide +kernel
theorem dX8_put_23 : decode cX8_put 23 = .ok (.dup, 1) := by decide +kernel
theorem dX8_put_24 : decode cX8_put 24 = .ok (.getfield 15, 3) := by decide +kernel
theorem dX8_put_27 : decode cX8_put 27 = .ok (.iconst 1, 1) := by decide +kernel
theorem dX8_put_28 : decode cX8_put 28 = .ok (.iadd, 1) := by decide +kernel
theorem dX8_put_29 : decode cX8_put 29 = .ok (.putfield 15, 3) := by decide +kernel
theorem dX8_put_32 : decode cX8_put 32 = .ok (.return_, 1) := by decide +kernel
end
section
theorem dX9_init_0 : decode cX9_init 0 = .ok (.aload_n 0, 1) := by decide +kernel
theorem dX9_init_1 : decode cX9_init 1 = .ok (.invokespecial 3, 3) := by decide +kernel
theorem dX9_init_4 : decode cX9_init 4 = .ok (.aload_n 0, 1) := by decide +kernel
theorem dX9_init_5 : decode cX9_init 5 = .ok (.new 9, 3) := by decide +kernel
theorem dX9_init_8 : decode cX9_init 8 = .ok (.dup, 1) := by decide +kernel
theorem dX9_init_9 : decode cX9_init 9 = .ok (.invokespecial 11, 3) := by decide +kernel
theorem dX9_init_12 : decode cX9_init 12 = .ok (.putfield 12, 3) := by decide +kernel
theorem dX9_init_15 : decode cX9_init 15 = .ok (.aload_n 0, 1) := by decide +kernel
theorem dX9_init_16 : decode cX9_init 16 = .ok (.bipush 8, 2) := by decide +kernel
theorem dX9_init_18 : decode cX9_init 18 = .ok (.invokestatic 16, 3) := by decide +kernel
theorem dX9_init_21 : decode cX9_init 21 = .ok (.putfield 20, 3) := by decide +kernel
theorem dX9_init_24 : decode cX9_init 24 = .ok (.aload_n 0, 1) := by decide +kernel
theorem dX9_init_25 : decode cX9_init 25 = .ok (.new 24, 3) := by decide +kernel
theorem dX9_init_28 : decode cX9_init 28 = .ok (.dup, 1) := by decide +kernel
theorem dX9_init_29 : decode cX9_init 29 = .ok (.invokespecial 26, 3) := by decide +kernel
theorem dX9_init_32 : decode cX9_init 32 = .ok (.putfield 27, 3) := by decide +kernel
theorem dX9_init_35 : decode cX9_init 35 = .ok (.aload_n 0, 1) := by decide +kernel
theorem dX9_init_36 : decode cX9_init 36 = .ok (.new 31, 3) := by decide +kernel
theorem dX9_init_39 : decode cX9_init 39 = .ok (.dup, 1) := by decide +kernel
theorem dX9_init_40 : decode cX9_init 40 = .ok (.invokespecial 33, 3) := by decide +kernel
theorem dX9_init_43 : decode cX9_init 43 = .ok (.putfield 34, 3) := by decide +kernel
theorem dX9_init_46 : decode cX9_init 46 = .ok (.aload_n 0, 1) := by decide +kernel
theorem dX9_init_47 : decode cX9_init 47 = .ok (.new 38, 3) := by decide +kernel
theorem dX9_init_50 : decode cX9_init 50 = .ok (.dup, 1) := by decide +kernel
theorem dX9_init_51 : decode cX9_init 51 = .ok (.invokespecial 40, 3) := by decide +kernel
theorem dX9_init_54 : decode cX9_init 54 = .ok (.putfield 41, 3) := by decide +kernel
theorem dX9_init_57 : decode cX9_init 57 = .ok (.aload_n 0, 1) := by decide +kernel
theorem dX9_init_58 : decode cX9_init 58 = .ok (.iconst 4, 1) := by decide +kernel
theorem dX9_init_59 : decode cX9_init 59 = .ok (.anewarray 45, 3) := by decide +kernel
theorem dX9_init_62 : decode cX9_init 62 = .ok (.putfield 47, 3) := by decide +kernel
theorem dX9_init_65 : decode cX9_init 65 = .ok (.iconst 0, 1) := by decide +kernel
theorem dX9_init_66 : decode cX9_init 66 = .ok (.istore_n 1, 1) := by decide +kernel
theorem dX9_init_67 : decode cX9_init 67 = .ok (.iload_n 1, 1) := by decide +kernel
theorem dX9_init_68 : decode cX9_init 68 = .ok (.iconst 4, 1) := by decide +kernel
theorem dX9_init_69 : decode cX9_init 69 = .ok (.if_icmp .ge 22, 3) := by decide +kernel
theorem dX9_init_72 : decode cX9_init 72 = .ok (.aload_n 0, 1) := by decide +kernel
theorem dX9_init_73 : decode cX9_init 73 = .ok (.getfield 47, 3) := by decide +kernel
theorem dX9_init_76 : decode cX9_init 76 = .ok (.iload_n 1, 1) := by decide +kernel
theorem dX9_init_77 : decode cX9_init 77 = .ok (.new 45, 3) := by decide +kernel
theorem dX9_init_80 : decode cX9_init 80 = .ok (.dup, 1) := by decide +kernel
theorem dX9_init_81 : decode cX9_init 81 = .ok (.invokespecial 51, 3) := by decide +kernel
theorem dX9_init_84 : decode cX9_init 84 = .ok (.aastore, 1) := by decide +kernel
theorem dX9_init_85 : decode cX9_init 85 = .ok (.iinc 1 1, 3) := by decide +kernel
theorem dX9_init_88 : decode cX9_init 88 = .ok (.goto (-21), 3) := by decide +kernel
theorem dX9_init_91 : decode cX9_init 91 = .ok (.aload_n 0, 1) := by decide +kernel
theorem dX9_init_92 : decode cX9_init 92 = .ok (.iconst 4, 1) := by decide +kernel
theorem dX9_init_93 : decode cX9_init 93 = .ok (.invokestatic 16, 3) := by decide +kernel
theorem dX9_init_96 : decode cX9_init 96 = .ok (.putfield 52, 3) := by decide +kernel
theorem dX9_init_99 : decode cX9_init 99 = .ok (.aload_n 0, 1) := by decide +kernel
theorem dX9_init_100 : decode cX9_init 100 = .ok (.new 55, 3) := by decide +kernel
theorem dX9_init_103 : decode cX9_init 103 = .ok (.dup, 1) := by decide +kernel
theorem dX9_init_104 : decode cX9_init 104 = .ok (.bipush 60, 2) := by decide +kernel
theorem dX9_init_106 : decode cX9_init 106 = .ok (.invokespecial 57, 3) := by decide +kernel
theorem dX9_init_109 : decode cX9_init 109 = .ok (.putfield 60, 3) := by decide +kernel
theorem dX9_init_112 : decode cX9_init 112 = .ok (.aload_n 0, 1) := by decide +kernel
theorem dX9_init_113 : decode cX9_init 113 = .ok (.new 55, 3) := by decide +kernel
theorem dX9_init_116 : decode cX9_init 116 = .ok (.dup, 1) := by decide +kernel
theorem dX9_init_117 : decode cX9_init 117 = .ok (.sipush 3600, 3) := by decide +kernel
theorem dX9_init_120 : decode cX9_init 120 = .ok (.invokespecial 57, 3) := by decide +kernel
theorem dX9_init_123 : decode cX9_init 123 = .ok (.putfield 64, 3) := by decide +kernel
theorem dX9_init_126 : decode cX9_init 126 = .ok (.aload_n 0, 1) := by decide +kernel
theorem dX9_init_127 : decode cX9_init 127 = .ok (.new 55, 3) := by decide +kernel
theorem dX9_init_130 : decode cX9_init 130 = .ok (.dup, 1) := by decide +kernel
theorem dX9_init_131 : decode cX9_init 131 = .ok (.sipush 3600, 3) := by decide +kernel
theorem dX9_init_134 : decode cX9_init 134 = .ok (.invokespecial 57, 3) := by decide +kernel
theorem dX9_init_137 : decode cX9_init 137 = .ok (.putfield 67, 3) := by decide +kernel
theorem dX9_init_140 : decode cX9_init 140 = .ok (.return_, 1) := by decide +kernel
theorem dX9_ring_0 : decode cX9_ring 0 = .ok (.iload_n 1, 1) := by decide +kernel
theorem dX9_ring_1 : decode cX9_ring 1 = .ok (.iconst 1, 1) := by decide +kernel
theorem dX9_ring_2 : decode cX9_ring 2 = .ok (.if_icmp .lt 15, 3) := by decide +kernel
theorem dX9_ring_5 : decode cX9_ring 5 = .ok (.iload_n 1, 1) := by decide +kernel
theorem dX9_ring_6 : decode cX9_ring 6 = .ok (.iconst 3, 1) := by decide +kernel
theorem dX9_ring_7 : decode cX9_ring 7 = .ok (.if_icmp .gt 10, 3) := by decide +kernel
theorem dX9_ring_10 : decode cX9_ring 10 = .ok (.iload_n 2, 1) := by decide +kernel
theorem dX9_ring_11 : decode cX9_ring 11 = .ok (.invokestatic 70, 3) := by decide +kernel
theorem dX9_ring_14 : decode cX9_ring 14 = .ok (.ifCond .ne 5, 3) := by decide +kernel
theorem dX9_ring_17 : decode cX9_ring 17 = .ok (.iconst 0, 1) := by decide +kernel
theorem dX9_ring_18 : decode cX9_ring 18 = .ok (.ireturn, 1) := by decide +kernel
theorem dX9_ring_19 : decode cX9_ring 19 = .ok (.aload_n 0, 1) := by decide +kernel
theorem dX9_ring_20 : decode cX9_ring 20 = .ok (.getfield 12, 3) := by decide +kernel
theorem dX9_ring_23 : decode cX9_ring 23 = .ok (.iload_n 1, 1) := by decide +kernel
theorem dX9_ring_24 : decode cX9_ring 24 = .ok (.putfield 74, 3) := by decide +kernel
theorem dX9_ring_27 : decode cX9_ring 27 = .ok (.aload_n 0, 1) := by decide +kernel
theorem dX9_ring_28 : decode cX9_ring 28 = .ok (.getfield 12, 3) := by decide +kernel
theorem dX9_ring_31 : decode cX9_ring 31 = .ok (.new 78, 3) := by decide +kernel
theorem dX9_ring_34 : decode cX9_ring 34 = .ok (.dup, 1) := by decide +kernel
theorem dX9_ring_35 : decode cX9_ring 35 = .ok (.iload_n 2, 1) := by decide +kernel
theorem dX9_ring_36 : decode cX9_ring 36 = .ok (.invokespecial 80, 3) := by decide +kernel
theorem dX9_ring_39 : decode cX9_ring 39 = .ok (.putfield 81, 3) := by decide +kernel
theorem dX9_ring_42 : decode cX9_ring 42 = .ok (.aload_n 0, 1) := by decide +kernel
theorem dX9_ring_43 : decode cX9_ring 43 = .ok (.getfield 12, 3) := by decide +kernel
theorem dX9_ring_46 : decode cX9_ring 46 = .ok (.iconst 1, 1) := by decide +kernel
theorem dX9_ring_47 : decode cX9_ring 47 = .ok (.iconst 1, 1) := by decide +kernel
theorem dX9_ring_48 : decode cX9_ring 48 = .ok (.iconst 1, 1) := by decide +kernel
theorem dX9_ring_49 : decode cX9_ring 49 = .ok (.invokevirtual 85, 3) := by decide +kernel
theorem dX9_ring_52 : decode cX9_ring 52 = .ok (.aload_n 0, 1) := by decide +kernel
theorem dX9_ring_53 : decode cX9_ring 53 = .ok (.getfield 20, 3) := by decide +kernel
theorem dX9_ring_56 : decode cX9_ring 56 = .ok (.astore_n 3, 1) := by decide +kernel
theorem dX9_ring_57 : decode cX9_ring 57 = .ok (.aload_n 3, 1) := by decide +kernel
theorem dX9_ring_58 : decode cX9_ring 58 = .ok (.arraylength, 1) := by decide +kernel
theorem dX9_ring_59 : decode cX9_ring 59 = .ok (.istore 4, 2) := by decide +kernel
theorem dX9_ring_61 : decode cX9_ring 61 = .ok (.iconst 0, 1) := by decide +kernel
theorem dX9_ring_62 : decode cX9_ring 62 = .ok (.istore 5, 2) := by decide +kernel
theorem dX9_ring_64 : decode cX9_ring 64 = .ok (.iload 5, 2) := by decide +kernel
theorem dX9_ring_66 : decode cX9_ring 66 = .ok (.iload 4, 2) := by decide +kernel
theorem dX9_ring_68 : decode cX9_ring 68 = .ok (.if_icmp .ge 20, 3) := by decide +kernel
theorem dX9_ring_71 : decode cX9_ring 71 = .ok (.aload_n 3, 1) := by decide +kernel
theorem dX9_ring_72 : decode cX9_ring 72 = .ok (.iload 5, 2) := by decide +kernel
theorem dX9_ring_74 : decode cX9_ring 74 = .ok (.aaload, 1) := by decide +kernel
theorem dX9_ring_75 : decode cX9_ring 75 = .ok (.astore 6, 2) := by decide +kernel
theorem dX9_ring_77 : decode cX9_ring 77 = .ok (.aload 6, 2) := by decide +kernel
theorem dX9_ring_79 : decode cX9_ring 79 = .ok (.invokevirtual 89, 3) := by decide +kernel
theorem dX9_ring_82 : decode cX9_ring 82 = .ok (.iinc 5 1, 3) := by decide +kernel
theorem dX9_ring_85 : decode cX9_ring 85 = .ok (.goto (-21), 3) := by decide +kernel
theorem dX9_ring_88 : decode cX9_ring 88 = .ok (.aload_n 0, 1) := by decide +kernel
theorem dX9_ring_89 : decode cX9_ring 89 = .ok (.invokevirtual 92, 3) := by decide +kernel
theorem dX9_ring_92 : decode cX9_ring 92 = .ok (.iconst 1, 1) := by decide +kernel
theorem dX9_ring_93 : decode cX9_ring 93 = .ok (.ireturn, 1) := by decide +kernel
theorem dX9_weights_0 : decode cX9_weights 0 = .ok (.iload_n 1, 1) := by decide +kernel
theorem dX9_weights_1 : decode cX9_weights 1 = .ok (.invokestatic 95, 3) := by decide +kernel
theorem dX9_weights_4 : decode cX9_weights 4 = .ok (.ifCond .eq 17, 3) := by decide +kernel
theorem dX9_weights_7 : decode cX9_weights 7 = .ok (.iload_n 2, 1) := by decide +kernel
theorem dX9_weights_8 : decode cX9_weights 8 = .ok (.invokestatic 95, 3) := by decide +kernel
theorem dX9_weights_11 : decode cX9_weights 11 = .ok (.ifCond .eq 10, 3) := by decide +kernel
theorem dX9_weights_14 : decode cX9_weights 14 = .ok (.iload_n 3, 1) := by decide +kernel
theorem dX9_weights_15 : decode cX9_weights 15 = .ok (.invokestatic 95, 3) := by decide +kernel
theorem dX9_weights_18 : decode cX9_weights 18 = .ok (.ifCond .ne 5, 3) := by decide +kernel
theorem dX9_weights_21 : decode cX9_weights 21 = .ok (.iconst 0, 1) := by decide +kernel
theorem dX9_weights_22 : decode cX9_weights 22 = .ok (.ireturn, 1) := by decide +kernel
theorem dX9_weights_23 : decode cX9_weights 23 = .ok (.aload_n 0, 1) := by decide +kernel
theorem dX9_weights_24 : decode cX9_weights 24 = .ok (.getfield 12, 3) := by decide +kernel
theorem dX9_weights_27 : decode cX9_weights 27 = .ok (.iload_n 1, 1) := by decide +kernel
theorem dX9_weights_28 : decode cX9_weights 28 = .ok (.iload_n 2, 1) := by decide +kernel
theorem dX9_weights_29 : decode cX9_weights 29 = .ok (.iload_n 3, 1) := by decide +kernel
theorem dX9_weights_30 : decode cX9_weights 30 = .ok (.invokevirtual 85, 3) := by decide +kernel
theorem dX9_weights_33 : decode cX9_weights 33 = .ok (.aload_n 0, 1) := by decide +kernel
theorem dX9_weights_34 : decode cX9_weights 34 = .ok (.getfield 20, 3) := by decide +kernel
theorem dX9_weights_37 : decode cX9_weights 37 = .ok (.astore 4, 2) := by decide +kernel
theorem dX9_weights_39 : decode cX9_weights 39 = .ok (.aload 4, 2) := by decide +kernel
theorem dX9_weights_41 : decode cX9_weights 41 = .ok (.arraylength, 1) := by decide +kernel
theorem dX9_weights_42 : decode cX9_weights 42 = .ok (.istore 5, 2) := by decide +kernel
theorem dX9_weights_44 : decode cX9_weights 44 = .ok (.iconst 0, 1) := by decide +kernel
theorem dX9_weights_45 : decode cX9_weights 45 = .ok (.istore 6, 2) := by decide +kernel
theorem dX9_weights_47 : decode cX9_weights 47 = .ok (.iload 6, 2) := by decide +kernel
theorem dX9_weights_49 : decode cX9_weights 49 = .ok (.iload 5, 2) := by decide +kernel
theorem dX9_weights_51 : decode cX9_weights 51 = .ok (.if_icmp .ge 25, 3) := by decide +kernel
theorem dX9_weights_54 : decode cX9_weights 54 = .ok (.aload 4, 2) := by decide +kernel
theorem dX9_weights_56 : decode cX9_weights 56 = .ok (.iload 6, 2) := by decide +kernel
theorem dX9_weights_58 : decode cX9_weights 58 = .ok (.aaload, 1) := by decide +kernel
theorem dX9_weights_59 : decode cX9_weights 59 = .ok (.astore 7, 2) := by decide +kernel
theorem dX9_weights_61 : decode cX9_weights 61 = .ok (.aload 7, 2) := by decide +kernel
theorem dX9_weights_63 : decode cX9_weights 63 = .ok (.aload_n 0, 1) := by decide +kernel
theorem dX9_weights_64 : decode cX9_weights 64 = .ok (.getfield 12, 3) := by decide +kernel
theorem dX9_weights_67 : decode cX9_weights 67 = .ok (.invokevirtual 98, 3) := by decide +kernel
theorem dX9_weights_70 : decode cX9_weights 70 = .ok (.iinc 6 1, 3) := by decide +kernel
theorem dX9_weights_73 : decode cX9_weights 73 = .ok (.goto (-26), 3) := by decide +kernel
theorem dX9_weights_76 : decode cX9_weights 76 = .ok (.aload_n 0, 1) := by decide +kernel
theorem dX9_weights_77 : decode cX9_weights 77 = .ok (.invokevirtual 92, 3) := by decide +kernel
theorem dX9_weights_80 : decode cX9_weights 80 = .ok (.iconst 1, 1) := by decide +kernel
theorem dX9_weights_81 : decode cX9_weights 81 = .ok (.ireturn, 1) := by decide +kernel
theorem dX9_feed_0 : decode cX9_feed 0 = .ok (.aload_n 0, 1) := by decide +kernel
theorem dX9_feed_1 : decode cX9_feed 1 = .ok (.getfield 27, 3) := by decide +kernel
theorem dX9_feed_4 : decode cX9_feed 4 = .ok (.getfield 102, 3) := by decide +kernel
theorem dX9_feed_7 : decode cX9_feed 7 = .ok (.bipush 20, 2) := by decide +kernel
theorem dX9_feed_9 : decode cX9_feed 9 = .ok (.iadd, 1) := by decide +kernel
theorem dX9_feed_10 : decode cX9_feed 10 = .ok (.sipush 200, 3) := by decide +kernel
theorem dX9_feed_13 : decode cX9_feed 13 = .ok (.if_icmp .le 5, 3) := by decide +kernel
theorem dX9_feed_16 : decode cX9_feed 16 = .ok (.iconst (-1), 1) := by decide +kernel
theorem dX9_feed_17 : decode cX9_feed 17 = .ok (.ireturn, 1) := by decide +kernel
theorem dX9_feed_18 : decode cX9_feed 18 = .ok (.aload_n 0, 1) := by decide +kernel
theorem dX9_feed_19 : decode cX9_feed 19 = .ok (.getfield 27, 3) := by decide +kernel
theorem dX9_feed_22 : decode cX9_feed 22 = .ok (.iload_n 1, 1) := by decide +kernel
theorem dX9_feed_23 : decode cX9_feed 23 = .ok (.invokevirtual 105, 3) := by decide +kernel
theorem dX9_feed_26 : decode cX9_feed 26 = .ok (.aload_n 0, 1) := by decide +kernel
theorem dX9_feed_27 : decode cX9_feed 27 = .ok (.getfield 27, 3) := by decide +kernel
theorem dX9_feed_30 : decode cX9_feed 30 = .ok (.iload_n 2, 1) := by decide +kernel
theorem dX9_feed_31 : decode cX9_feed 31 = .ok (.invokevirtual 105, 3) := by decide +kernel
theorem dX9_feed_34 : decode cX9_feed 34 = .ok (.aload_n 0, 1) := by decide +kernel
theorem dX9_feed_35 : decode cX9_feed 35 = .ok (.getfield 27, 3) := by decide +kernel
theorem dX9_feed_38 : decode cX9_feed 38 = .ok (.iload_n 3, 1) := by decide +kernel
theorem dX9_feed_39 : decode cX9_feed 39 = .ok (.invokevirtual 105, 3) := by decide +kernel
theorem dX9_feed_42 : decode cX9_feed 42 = .ok (.aload_n 0, 1) := by decide +kernel
theorem dX9_feed_43 : decode cX9_feed 43 = .ok (.getfield 27, 3) := by decide +kernel
theorem dX9_feed_46 : decode cX9_feed 46 = .ok (.iload 4, 2) := by decide +kernel
theorem dX9_feed_48 : decode cX9_feed 48 = .ok (.invokevirtual 105, 3) := by decide +kernel
theorem dX9_feed_51 : decode cX9_feed 51 = .ok (.aload_n 0, 1) := by decide +kernel
theorem dX9_feed_52 : decode cX9_feed 52 = .ok (.getfield 27, 3) := by decide +kernel
theorem dX9_feed_55 : decode cX9_feed 55 = .ok (.iload 5, 2) := by decide +kernel
theorem dX9_feed_57 : decode cX9_feed 57 = .ok (.invokevirtual 105, 3) := by decide +kernel
theorem dX9_feed_60 : decode cX9_feed 60 = .ok (.aload_n 0, 1) := by decide +kernel
theorem dX9_feed_61 : decode cX9_feed 61 = .ok (.getfield 27, 3) := by decide +kernel
theorem dX9_feed_64 : decode cX9_feed 64 = .ok (.getfield 102, 3) := by decide +kernel
theorem dX9_feed_67 : decode cX9_feed 67 = .ok (.ireturn, 1) := by decide +kernel
theorem dX9_end_0 : decode cX9_end 0 = .ok (.iload_n 1, 1) := by decide +kernel
theorem dX9_end_1 : decode cX9_end 1 = .ok (.ifCond .lt 14, 3) := by decide +kernel
theorem dX9_end_4 : decode cX9_end 4 = .ok (.iload_n 1, 1) := by decide +kernel
theorem dX9_end_5 : decode cX9_end 5 = .ok (.aload_n 0, 1) := by decide +kernel
theorem dX9_end_6 : decode cX9_end 6 = .ok (.getfield 27, 3) := by decide +kernel
theorem dX9_end_9 : decode cX9_end 9 = .ok (.getfield 102, 3) := by decide +kernel
theorem dX9_end_12 : decode cX9_end 12 = .ok (.if_icmp .le 5, 3) := by decide +kernel
theorem dX9_end_15 : decode cX9_end 15 = .ok (.iconst 0, 1) := by decide +kernel
theorem dX9_end_16 : decode cX9_end 16 = .ok (.ireturn, 1) := by decide +kernel
theorem dX9_end_17 : decode cX9_end 17 = .ok (.aload_n 0, 1) := by decide +kernel
theorem dX9_end_18 : decode cX9_end 18 = .ok (.getfield 27, 3) := by decide +kernel
theorem dX9_end_21 : decode cX9_end 21 = .ok (.iload_n 1, 1) := by decide +kernel
theorem dX9_end_22 : decode cX9_end 22 = .ok (.putfield 102, 3) := by decide +kernel
theorem dX9_end_25 : decode cX9_end 25 = .ok (.iconst 1, 1) := by decide +kernel
theorem dX9_end_26 : decode cX9_end 26 = .ok (.ireturn, 1) := by decide +kernel
theorem dX9_poly_0 : decode cX9_poly 0 = .ok (.aload_n 0, 1) := by decide +kernel
theorem dX9_poly_1 : decode cX9_poly 1 = .ok (.getfield 27, 3) := by decide +kernel
theorem dX9_poly_4 : decode cX9_poly 4 = .ok (.invokevirtual 108, 3) := by decide +kernel
theorem dX9_poly_7 : decode cX9_poly 7 = .ok (.iload_n 1, 1) := by decide +kernel
theorem dX9_poly_8 : decode cX9_poly 8 = .ok (.invokestatic 111, 3) := by decide +kernel
theorem dX9_poly_11 : decode cX9_poly 11 = .ok (.ifCond .eq 14, 3) := by decide +kernel
theorem dX9_poly_14 : decode cX9_poly 14 = .ok (.aload_n 0, 1) := by decide +kernel
theorem dX9_poly_15 : decode cX9_poly 15 = .ok (.getfield 27, 3) := by decide +kernel
theorem dX9_poly_18 : decode cX9_poly 18 = .ok (.aload_n 0, 1) := by decide +kernel
theorem dX9_poly_19 : decode cX9_poly 19 = .ok (.getfield 12, 3) := by decide +kernel
theorem dX9_poly_22 : decode cX9_poly 22 = .ok (.invokevirtual 114, 3) := by decide +kernel
theorem dX9_poly_25 : decode cX9_poly 25 = .ok (.aload_n 0, 1) := by decide +kernel
theorem dX9_poly_26 : decode cX9_poly 26 = .ok (.getfield 27, 3) := by decide +kernel
theorem dX9_poly_29 : decode cX9_poly 29 = .ok (.iconst 0, 1) := by decide +kernel
theorem dX9_poly_30 : decode cX9_poly 30 = .ok (.putfield 102, 3) := by decide +kernel
theorem dX9_poly_33 : decode cX9_poly 33 = .ok (.iload_n 1, 1) := by decide +kernel
theorem dX9_poly_34 : decode cX9_poly 34 = .ok (.invokestatic 111, 3) := by decide +kernel
theorem dX9_poly_37 : decode cX9_poly 37 = .ok (.ifCond .eq 13, 3) := by decide +kernel
theorem dX9_poly_40 : decode cX9_poly 40 = .ok (.aload_n 0, 1) := by decide +kernel
theorem dX9_poly_41 : decode cX9_poly 41 = .ok (.getfield 27, 3) := by decide +kernel
theorem dX9_poly_44 : decode cX9_poly 44 = .ok (.getfield 117, 3) := by decide +kernel
theorem dX9_poly_47 : decode cX9_poly 47 = .ok (.ifCond .eq 5, 3) := by decide +kernel
theorem dX9_poly_50 : decode cX9_poly 50 = .ok (.iconst (-1), 1) := by decide +kernel
theorem dX9_poly_51 : decode cX9_poly 51 = .ok (.ireturn, 1) := by decide +kernel
theorem dX9_poly_52 : decode cX9_poly 52 = .ok (.aload_n 0, 1) := by decide +kernel
theorem dX9_poly_53 : decode cX9_poly 53 = .ok (.getfield 60, 3) := by decide +kernel
theorem dX9_poly_56 : decode cX9_poly 56 = .ok (.aload_n 0, 1) := by decide +kernel
theorem dX9_poly_57 : decode cX9_poly 57 = .ok (.getfield 27, 3) := by decide +kernel
theorem dX9_poly_60 : decode cX9_poly 60 = .ok (.getfield 120, 3) := by decide +kernel
theorem dX9_poly_63 : decode cX9_poly 63 = .ok (.invokevirtual 123, 3) := by decide +kernel
theorem dX9_poly_66 : decode cX9_poly 66 = .ok (.aload_n 0, 1) := by decide +kernel
theorem dX9_poly_67 : decode cX9_poly 67 = .ok (.iload_n 1, 1) := by decide +kernel
theorem dX9_poly_68 : decode cX9_poly 68 = .ok (.invokevirtual 127, 3) := by decide +kernel
theorem dX9_poly_71 : decode cX9_poly 71 = .ok (.ireturn, 1) := by decide +kernel
theorem dX9_show_0 : decode cX9_show 0 = .ok (.iload_n 1, 1) := by decide +kernel
theorem dX9_show_1 : decode cX9_show 1 = .ok (.invokestatic 111, 3) := by decide +kernel
theorem dX9_show_4 : decode cX9_show 4 = .ok (.ifCond .ne 5, 3) := by decide +kernel
theorem dX9_show_7 : decode cX9_show 7 = .ok (.iconst (-1), 1) := by decide +kernel
theorem dX9_show_8 : decode cX9_show 8 = .ok (.ireturn, 1) := by decide +kernel
theorem dX9_show_9 : decode cX9_show 9 = .ok (.aload_n 0, 1) := by decide +kernel
theorem dX9_show_10 : decode cX9_show 10 = .ok (.getfield 34, 3) := by decide +kernel
theorem dX9_show_13 : decode cX9_show 13 = .ok (.aload_n 0, 1) := by decide +kernel
theorem dX9_show_14 : decode cX9_show 14 = .ok (.getfield 20, 3) := by decide +kernel
theorem dX9_show_17 : decode cX9_show 17 = .ok (.iload_n 1, 1) := by decide +kernel
theorem dX9_show_18 : decode cX9_show 18 = .ok (.aaload, 1) := by decide +kernel
theorem dX9_show_19 : decode cX9_show 19 = .ok (.invokevirtual 134, 3) := by decide +kernel
theorem dX9_show_22 : decode cX9_show 22 = .ok (.aload_n 0, 1) := by decide +kernel
theorem dX9_show_23 : decode cX9_show 23 = .ok (.getfield 34, 3) := by decide +kernel
theorem dX9_show_26 : decode cX9_show 26 = .ok (.getfield 137, 3) := by decide +kernel
theorem dX9_show_29 : decode cX9_show 29 = .ok (.ireturn, 1) := by decide +kernel
theorem dX9_out_0 : decode cX9_out 0 = .ok (.iload_n 1, 1) := by decide +kernel
theorem dX9_out_1 : decode cX9_out 1 = .ok (.ifCond .lt 26, 3) := by decide +kernel
theorem dX9_out_4 : decode cX9_out 4 = .ok (.iload_n 1, 1) := by decide +kernel
theorem dX9_out_5 : decode cX9_out 5 = .ok (.aload_n 0, 1) := by decide +kernel
theorem dX9_out_6 : decode cX9_out 6 = .ok (.getfield 34, 3) := by decide +kernel
theorem dX9_out_9 : decode cX9_out 9 = .ok (.getfield 137, 3) := by decide +kernel
theorem dX9_out_12 : decode cX9_out 12 = .ok (.if_icmp .ge 15, 3) := by decide +kernel
theorem dX9_out_15 : decode cX9_out 15 = .ok (.aload_n 0, 1) := by decide +kernel
theorem dX9_out_16 : decode cX9_out 16 = .ok (.getfield 34, 3) := by decide +kernel
theorem dX9_out_19 : decode cX9_out 19 = .ok (.getfield 138, 3) := by decide +kernel
theorem dX9_out_22 : decode cX9_out 22 = .ok (.iload_n 1, 1) := by decide +kernel
theorem dX9_out_23 : decode cX9_out 23 = .ok (.iaload, 1) := by decide +kernel
theorem dX9_out_24 : decode cX9_out 24 = .ok (.goto 4, 3) := by decide +kernel
theorem dX9_out_27 : decode cX9_out 27 = .ok (.iconst (-1), 1) := by decide +kernel
theorem dX9_out_28 : decode cX9_out 28 = .ok (.ireturn, 1) := by decide +kernel
theorem dX9_term_0 : decode cX9_term 0 = .ok (.iload_n 1, 1) := by decide +kernel
theorem dX9_term_1 : decode cX9_term 1 = .ok (.invokestatic 111, 3) := by decide +kernel
theorem dX9_term_4 : decode cX9_term 4 = .ok (.ifCond .ne 5, 3) := by decide +kernel
theorem dX9_term_7 : decode cX9_term 7 = .ok (.iconst (-1), 1) := by decide +kernel
theorem dX9_term_8 : decode cX9_term 8 = .ok (.ireturn, 1) := by decide +kernel
theorem dX9_term_9 : decode cX9_term 9 = .ok (.aload_n 0, 1) := by decide +kernel
theorem dX9_term_10 : decode cX9_term 10 = .ok (.getfield 20, 3) := by decide +kernel
theorem dX9_term_13 : decode cX9_term 13 = .ok (.iload_n 1, 1) := by decide +kernel
theorem dX9_term_14 : decode cX9_term 14 = .ok (.aaload, 1) := by decide +kernel
theorem dX9_term_15 : decode cX9_term 15 = .ok (.astore 4, 2) := by decide +kernel
theorem dX9_term_17 : decode cX9_term 17 = .ok (.iload_n 2, 1) := by decide +kernel
theorem dX9_term_18 : decode cX9_term 18 = .ok (.iconst (-1), 1) := by decide +kernel
theorem dX9_term_19 : decode cX9_term 19 = .ok (.if_icmp .ne 9, 3) := by decide +kernel
theorem dX9_term_22 : decode cX9_term 22 = .ok (.aload 4, 2) := by decide +kernel
theorem dX9_term_24 : decode cX9_term 24 = .ok (.getfield 142, 3) := by decide +kernel
theorem dX9_term_27 : decode cX9_term 27 = .ok (.ireturn, 1) := by decide +kernel
theorem dX9_term_28 : decode cX9_term 28 = .ok (.iload_n 2, 1) := by decide +kernel
theorem dX9_term_29 : decode cX9_term 29 = .ok (.ifCond .lt 21, 3) := by decide +kernel
theorem dX9_term_32 : decode cX9_term 32 = .ok (.iload_n 2, 1) := by decide +kernel
theorem dX9_term_33 : decode cX9_term 33 = .ok (.aload 4, 2) := by decide +kernel
theorem dX9_term_35 : decode cX9_term 35 = .ok (.getfield 142, 3) := by decide +kernel
theorem dX9_term_38 : decode cX9_term 38 = .ok (.if_icmp .ge 12, 3) := by decide +kernel
theorem dX9_term_41 : decode cX9_term 41 = .ok (.iload_n 3, 1) := by decide +kernel
theorem dX9_term_42 : decode cX9_term 42 = .ok (.ifCond .lt 8, 3) := by decide +kernel
theorem dX9_term_45 : decode cX9_term 45 = .ok (.iload_n 3, 1) := by decide +kernel
theorem dX9_term_46 : decode cX9_term 46 = .ok (.iconst 4, 1) := by decide +kernel
theorem dX9_term_47 : decode cX9_term 47 = .ok (.if_icmp .le 5, 3) := by decide +kernel
theorem dX9_term_50 : decode cX9_term 50 = .ok (.iconst (-1), 1) := by decide +kernel
theorem dX9_term_51 : decode cX9_term 51 = .ok (.ireturn, 1) := by decide +kernel
theorem dX9_term_52 : decode cX9_term 52 = .ok (.iload_n 3, 1) := by decide +kernel
theorem dX9_term_53 : decode cX9_term 53 = .ok (.ifCond .ne 13, 3) := by decide +kernel
theorem dX9_term_56 : decode cX9_term 56 = .ok (.aload 4, 2) := by decide +kernel
theorem dX9_term_58 : decode cX9_term 58 = .ok (.getfield 143, 3) := by decide +kernel
theorem dX9_term_61 : decode cX9_term 61 = .ok (.iload_n 2, 1) := by decide +kernel
theorem dX9_term_62 : decode cX9_term 62 = .ok (.iaload, 1) := by decide +kernel
theorem dX9_term_63 : decode cX9_term 63 = .ok (.goto 16, 3) := by decide +kernel
theorem dX9_term_66 : decode cX9_term 66 = .ok (.aload 4, 2) := by decide +kernel
theorem dX9_term_68 : decode cX9_term 68 = .ok (.getfield 146, 3) := by decide +kernel
theorem dX9_term_71 : decode cX9_term 71 = .ok (.iload_n 2, 1) := by decide +kernel
theorem dX9_term_72 : decode cX9_term 72 = .ok (.iaload, 1) := by decide +kernel
theorem dX9_term_73 : decode cX9_term 73 = .ok (.iload_n 3, 1) := by decide +kernel
theorem dX9_term_74 : decode cX9_term 74 = .ok (.iconst 1, 1) := by decide +kernel
theorem dX9_term_75 : decode cX9_term 75 = .ok (.isub, 1) := by decide +kernel
theorem dX9_term_76 : decode cX9_term 76 = .ok (.invokestatic 149, 3) := by decide +kernel
theorem dX9_term_79 : decode cX9_term 79 = .ok (.ireturn, 1) := by decide +kernel
theorem dX9_shape_0 : decode cX9_shape 0 = .ok (.iload_n 1, 1) := by decide +kernel
theorem dX9_shape_1 : decode cX9_shape 1 = .ok (.invokestatic 111, 3) := by decide +kernel
theorem dX9_shape_4 : decode cX9_shape 4 = .ok (.ifCond .ne 5, 3) := by decide +kernel
theorem dX9_shape_7 : decode cX9_shape 7 = .ok (.iconst (-1), 1) := by decide +kernel
theorem dX9_shape_8 : decode cX9_shape 8 = .ok (.ireturn, 1) := by decide +kernel
theorem dX9_shape_9 : decode cX9_shape 9 = .ok (.aload_n 0, 1) := by decide +kernel
theorem dX9_shape_10 : decode cX9_shape 10 = .ok (.getfield 20, 3) := by decide +kernel
theorem dX9_shape_13 : decode cX9_shape 13 = .ok (.iload_n 1, 1) := by decide +kernel
theorem dX9_shape_14 : decode cX9_shape 14 = .ok (.aaload, 1) := by decide +kernel
theorem dX9_shape_15 : decode cX9_shape 15 = .ok (.astore_n 3, 1) := by decide +kernel
theorem dX9_shape_16 : decode cX9_shape 16 = .ok (.iload_n 2, 1) := by decide +kernel
theorem dX9_shape_17 : decode cX9_shape 17 = .ok (.tableswitch 80 0 4 #[35, 40, 45, 50, 67], 35) := by decide +kernel
theorem dX9_shape_52 : decode cX9_shape 52 = .ok (.aload_n 3, 1) := by decide +kernel
theorem dX9_shape_53 : decode cX9_shape 53 = .ok (.invokevirtual 153, 3) := by decide +kernel
theorem dX9_shape_56 : decode cX9_shape 56 = .ok (.ireturn, 1) := by decide +kernel
theorem dX9_shape_57 : decode cX9_shape 57 = .ok (.aload_n 3, 1) := by decide +kernel
theorem dX9_shape_58 : decode cX9_shape 58 = .ok (.invokevirtual 157, 3) := by decide +kernel
theorem dX9_shape_61 : decode cX9_shape 61 = .ok (.ireturn, 1) := by decide +kernel
theorem dX9_shape_62 : decode cX9_shape 62 = .ok (.aload_n 3, 1) := by decide +kernel
theorem dX9_shape_63 : decode cX9_shape 63 = .ok (.invokevirtual 160, 3) := by decide +kernel
theorem dX9_shape_66 : decode cX9_shape 66 = .ok (.ireturn, 1) := by decide +kernel
theorem dX9_shape_67 : decode cX9_shape 67 = .ok (.aload_n 3, 1) := by decide +kernel
theorem dX9_shape_68 : decode cX9_shape 68 = .ok (.invokevirtual 153, 3) := by decide +kernel
theorem dX9_shape_71 : decode cX9_shape 71 = .ok (.aload_n 3, 1) := by decide +kernel
theorem dX9_shape_72 : decode cX9_shape 72 = .ok (.invokevirtual 157, 3) := by decide +kernel
theorem dX9_shape_75 : decode cX9_shape 75 = .ok (.if_icmp .ne 7, 3) := by decide +kernel
theorem dX9_shape_78 : decode cX9_shape 78 = .ok (.iconst 1, 1) := by decide +kernel
theorem dX9_shape_79 : decode cX9_shape 79 = .ok (.goto 4, 3) := by decide +kernel
theorem dX9_shape_82 : decode cX9_shape 82 = .ok (.iconst 0, 1) := by decide +kernel
theorem dX9_shape_83 : decode cX9_shape 83 = .ok (.ireturn, 1) := by decide +kernel
theorem dX9_shape_84 : decode cX9_shape 84 = .ok (.aload_n 3, 1) := by decide +kernel
theorem dX9_shape_85 : decode cX9_shape 85 = .ok (.invokevirtual 153, 3) := by decide +kernel
theorem dX9_shape_88 : decode cX9_shape 88 = .ok (.ifCond .ne 7, 3) := by decide +kernel
theorem dX9_shape_91 : decode cX9_shape 91 = .ok (.iconst 1, 1) := by decide +kernel
theorem dX9_shape_92 : decode cX9_shape 92 = .ok (.goto 4, 3) := by decide +kernel
theorem dX9_shape_95 : decode cX9_shape 95 = .ok (.iconst 0, 1) := by decide +kernel
theorem dX9_shape_96 : decode cX9_shape 96 = .ok (.ireturn, 1) := by decide +kernel
theorem dX9_shape_97 : decode cX9_shape 97 = .ok (.iconst (-1), 1) := by decide +kernel
theorem dX9_shape_98 : decode cX9_shape 98 = .ok (.ireturn, 1) := by decide +kernel
theorem dX9_make_0 : decode cX9_make 0 = .ok (.iload_n 2, 1) := by decide +kernel
theorem dX9_make_1 : decode cX9_make 1 = .ok (.invokestatic 111, 3) := by decide +kernel
theorem dX9_make_4 : decode cX9_make 4 = .ok (.ifCond .eq 18, 3) := by decide +kernel
theorem dX9_make_7 : decode cX9_make 7 = .ok (.iload_n 3, 1) := by decide +kernel
theorem dX9_make_8 : decode cX9_make 8 = .ok (.invokestatic 111, 3) := by decide +kernel
theorem dX9_make_11 : decode cX9_make 11 = .ok (.ifCond .eq 11, 3) := by decide +kernel
theorem dX9_make_14 : decode cX9_make 14 = .ok (.iload 4, 2) := by decide +kernel
theorem dX9_make_16 : decode cX9_make 16 = .ok (.invokestatic 111, 3) := by decide +kernel
theorem dX9_make_19 : decode cX9_make 19 = .ok (.ifCond .ne 5, 3) := by decide +kernel
theorem dX9_make_22 : decode cX9_make 22 = .ok (.iconst (-1), 1) := by decide +kernel
theorem dX9_make_23 : decode cX9_make 23 = .ok (.ireturn, 1) := by decide +kernel
theorem dX9_make_24 : decode cX9_make 24 = .ok (.iconst 0, 1) := by decide +kernel
theorem dX9_make_25 : decode cX9_make 25 = .ok (.istore 5, 2) := by decide +kernel
theorem dX9_make_27 : decode cX9_make 27 = .ok (.iload_n 1, 1) := by decide +kernel
theorem dX9_make_28 : decode cX9_make 28 = .ok (.ifCond .ne 37, 3) := by decide +kernel
theorem dX9_make_31 : decode cX9_make 31 = .ok (.aload_n 0, 1) := by decide +kernel
theorem dX9_make_32 : decode cX9_make 32 = .ok (.getfield 60, 3) := by decide +kernel
theorem dX9_make_35 : decode cX9_make 35 = .ok (.aload_n 0, 1) := by decide +kernel
theorem dX9_make_36 : decode cX9_make 36 = .ok (.getfield 20, 3) := by decide +kernel
theorem dX9_make_39 : decode cX9_make 39 = .ok (.iload_n 2, 1) := by decide +kernel
theorem dX9_make_40 : decode cX9_make 40 = .ok (.aaload, 1) := by decide +kernel
theorem dX9_make_41 : decode cX9_make 41 = .ok (.iconst 1, 1) := by decide +kernel
theorem dX9_make_42 : decode cX9_make 42 = .ok (.ldc 165, 2) := by decide +kernel
theorem dX9_make_44 : decode cX9_make 44 = .ok (.aload_n 0, 1) := by decide +kernel
theorem dX9_make_45 : decode cX9_make 45 = .ok (.getfield 20, 3) := by decide +kernel
theorem dX9_make_48 : decode cX9_make 48 = .ok (.iload_n 3, 1) := by decide +kernel
theorem dX9_make_49 : decode cX9_make 49 = .ok (.aaload, 1) := by decide +kernel
theorem dX9_make_50 : decode cX9_make 50 = .ok (.aload_n 0, 1) := by decide +kernel
theorem dX9_make_51 : decode cX9_make 51 = .ok (.getfield 12, 3) := by decide +kernel
theorem dX9_make_54 : decode cX9_make 54 = .ok (.getfield 81, 3) := by decide +kernel
theorem dX9_make_57 : decode cX9_make 57 = .ok (.invokevirtual 166, 3) := by decide +kernel
theorem dX9_make_60 : decode cX9_make 60 = .ok (.istore 5, 2) := by decide +kernel
theorem dX9_make_62 : decode cX9_make 62 = .ok (.goto 79, 3) := by decide +kernel
theorem dX9_make_65 : decode cX9_make 65 = .ok (.iload_n 1, 1) := by decide +kernel
theorem dX9_make_66 : decode cX9_make 66 = .ok (.iconst 1, 1) := by decide +kernel
theorem dX9_make_67 : decode cX9_make 67 = .ok (.if_icmp .ne 51, 3) := by decide +kernel
theorem dX9_make_70 : decode cX9_make 70 = .ok (.aload_n 0, 1) := by decide +kernel
theorem dX9_make_71 : decode cX9_make 71 = .ok (.getfield 12, 3) := by decide +kernel
theorem dX9_make_74 : decode cX9_make 74 = .ok (.getfield 81, 3) := by decide +kernel
theorem dX9_make_77 : decode cX9_make 77 = .ok (.iconst 1, 1) := by decide +kernel
theorem dX9_make_78 : decode cX9_make 78 = .ok (.invokevirtual 170, 3) := by decide +kernel
theorem dX9_make_81 : decode cX9_make 81 = .ok (.istore 6, 2) := by decide +kernel
theorem dX9_make_83 : decode cX9_make 83 = .ok (.aload_n 0, 1) := by decide +kernel
theorem dX9_make_84 : decode cX9_make 84 = .ok (.getfield 60, 3) := by decide +kernel
theorem dX9_make_87 : decode cX9_make 87 = .ok (.aload_n 0, 1) := by decide +kernel
theorem dX9_make_88 : decode cX9_make 88 = .ok (.getfield 20, 3) := by decide +kernel
theorem dX9_make_91 : decode cX9_make 91 = .ok (.iload_n 2, 1) := by decide +kernel
theorem dX9_make_92 : decode cX9_make 92 = .ok (.aaload, 1) := by decide +kernel
theorem dX9_make_93 : decode cX9_make 93 = .ok (.iload 6, 2) := by decide +kernel
theorem dX9_make_95 : decode cX9_make 95 = .ok (.ldc 165, 2) := by decide +kernel
theorem dX9_make_97 : decode cX9_make 97 = .ok (.aload_n 0, 1) := by decide +kernel
theorem dX9_make_98 : decode cX9_make 98 = .ok (.getfield 20, 3) := by decide +kernel
theorem dX9_make_101 : decode cX9_make 101 = .ok (.iload_n 3, 1) := by decide +kernel
theorem dX9_make_102 : decode cX9_make 102 = .ok (.aaload, 1) := by decide +kernel
theorem dX9_make_103 : decode cX9_make 103 = .ok (.aload_n 0, 1) := by decide +kernel
theorem dX9_make_104 : decode cX9_make 104 = .ok (.getfield 12, 3) := by decide +kernel
theorem dX9_make_107 : decode cX9_make 107 = .ok (.getfield 81, 3) := by decide +kernel
theorem dX9_make_110 : decode cX9_make 110 = .ok (.invokevirtual 166, 3) := by decide +kernel
theorem dX9_make_113 : decode cX9_make 113 = .ok (.istore 5, 2) := by decide +kernel
theorem dX9_make_115 : decode cX9_make 115 = .ok (.goto 26, 3) := by decide +kernel
theorem dX9_make_118 : decode cX9_make 118 = .ok (.iload_n 1, 1) := by decide +kernel
theorem dX9_make_119 : decode cX9_make 119 = .ok (.iconst 2, 1) := by decide +kernel
theorem dX9_make_120 : decode cX9_make 120 = .ok (.if_icmp .ne 21, 3) := by decide +kernel
theorem dX9_make_123 : decode cX9_make 123 = .ok (.aload_n 0, 1) := by decide +kernel
theorem dX9_make_124 : decode cX9_make 124 = .ok (.aload_n 0, 1) := by decide +kernel
theorem dX9_make_125 : decode cX9_make 125 = .ok (.getfield 20, 3) := by decide +kernel
theorem dX9_make_128 : decode cX9_make 128 = .ok (.iload_n 2, 1) := by decide +kernel
theorem dX9_make_129 : decode cX9_make 129 = .ok (.aaload, 1) := by decide +kernel
theorem dX9_make_130 : decode cX9_make 130 = .ok (.aload_n 0, 1) := by decide +kernel
theorem dX9_make_131 : decode cX9_make 131 = .ok (.getfield 20, 3) := by decide +kernel
theorem dX9_make_134 : decode cX9_make 134 = .ok (.iload_n 3, 1) := by decide +kernel
theorem dX9_make_135 : decode cX9_make 135 = .ok (.aaload, 1) := by decide +kernel
theorem dX9_make_136 : decode cX9_make 136 = .ok (.invokevirtual 173, 3) := by decide +kernel
theorem dX9_make_139 : decode cX9_make 139 = .ok (.istore 5, 2) := by decide +kernel
theorem dX9_make_141 : decode cX9_make 141 = .ok (.iload 5, 2) := by decide +kernel
theorem dX9_make_143 : decode cX9_make 143 = .ok (.ifCond .eq 12, 3) := by decide +kernel
theorem dX9_make_146 : decode cX9_make 146 = .ok (.aload_n 0, 1) := by decide +kernel
theorem dX9_make_147 : decode cX9_make 147 = .ok (.iload 4, 2) := by decide +kernel
theorem dX9_make_149 : decode cX9_make 149 = .ok (.invokevirtual 127, 3) := by decide +kernel
theorem dX9_make_152 : decode cX9_make 152 = .ok (.goto 4, 3) := by decide +kernel
theorem dX9_make_155 : decode cX9_make 155 = .ok (.iconst (-1), 1) := by decide +kernel
theorem dX9_make_156 : decode cX9_make 156 = .ok (.ireturn, 1) := by decide +kernel
theorem dX9_weak_0 : decode cX9_weak 0 = .ok (.iload_n 1, 1) := by decide +kernel
theorem dX9_weak_1 : decode cX9_weak 1 = .ok (.invokestatic 111, 3) := by decide +kernel
theorem dX9_weak_4 : decode cX9_weak 4 = .ok (.ifCond .eq 10, 3) := by decide +kernel
theorem dX9_weak_7 : decode cX9_weak 7 = .ok (.iload_n 2, 1) := by decide +kernel
theorem dX9_weak_8 : decode cX9_weak 8 = .ok (.invokestatic 184, 3) := by decide +kernel
theorem dX9_weak_11 : decode cX9_weak 11 = .ok (.ifCond .ne 5, 3) := by decide +kernel
theorem dX9_weak_14 : decode cX9_weak 14 = .ok (.iconst (-1), 1) := by decide +kernel
theorem dX9_weak_15 : decode cX9_weak 15 = .ok (.ireturn, 1) := by decide +kernel
theorem dX9_weak_16 : decode cX9_weak 16 = .ok (.aload_n 0, 1) := by decide +kernel
theorem dX9_weak_17 : decode cX9_weak 17 = .ok (.getfield 41, 3) := by decide +kernel
theorem dX9_weak_20 : decode cX9_weak 20 = .ok (.aload_n 0, 1) := by decide +kernel
theorem dX9_weak_21 : decode cX9_weak 21 = .ok (.getfield 20, 3) := by decide +kernel
theorem dX9_weak_24 : decode cX9_weak 24 = .ok (.iload_n 1, 1) := by decide +kernel
theorem dX9_weak_25 : decode cX9_weak 25 = .ok (.aload_n 0, 1) := by decide +kernel
theorem dX9_weak_26 : decode cX9_weak 26 = .ok (.iload_n 2, 1) := by decide +kernel
theorem dX9_weak_27 : decode cX9_weak 27 = .ok (.invokevirtual 187, 3) := by decide +kernel
theorem dX9_weak_30 : decode cX9_weak 30 = .ok (.aload_n 0, 1) := by decide +kernel
theorem dX9_weak_31 : decode cX9_weak 31 = .ok (.getfield 12, 3) := by decide +kernel
theorem dX9_weak_34 : decode cX9_weak 34 = .ok (.getfield 81, 3) := by decide +kernel
theorem dX9_weak_37 : decode cX9_weak 37 = .ok (.invokevirtual 190, 3) := by decide +kernel
theorem dX9_weak_40 : decode cX9_weak 40 = .ok (.ireturn, 1) := by decide +kernel
theorem dX9_kept_0 : decode cX9_kept 0 = .ok (.aload_n 0, 1) := by decide +kernel
theorem dX9_kept_1 : decode cX9_kept 1 = .ok (.getfield 41, 3) := by decide +kernel
theorem dX9_kept_4 : decode cX9_kept 4 = .ok (.iload_n 1, 1) := by decide +kernel
theorem dX9_kept_5 : decode cX9_kept 5 = .ok (.invokevirtual 194, 3) := by decide +kernel
theorem dX9_kept_8 : decode cX9_kept 8 = .ok (.astore_n 3, 1) := by decide +kernel
theorem dX9_kept_9 : decode cX9_kept 9 = .ok (.aload_n 3, 1) := by decide +kernel
theorem dX9_kept_10 : decode cX9_kept 10 = .ok (.ifnull 10, 3) := by decide +kernel
theorem dX9_kept_13 : decode cX9_kept 13 = .ok (.iload_n 2, 1) := by decide +kernel
theorem dX9_kept_14 : decode cX9_kept 14 = .ok (.invokestatic 111, 3) := by decide +kernel
theorem dX9_kept_17 : decode cX9_kept 17 = .ok (.ifCond .ne 5, 3) := by decide +kernel
theorem dX9_kept_20 : decode cX9_kept 20 = .ok (.iconst (-1), 1) := by decide +kernel
theorem dX9_kept_21 : decode cX9_kept 21 = .ok (.ireturn, 1) := by decide +kernel
theorem dX9_kept_22 : decode cX9_kept 22 = .ok (.aload_n 0, 1) := by decide +kernel
theorem dX9_kept_23 : decode cX9_kept 23 = .ok (.getfield 60, 3) := by decide +kernel
theorem dX9_kept_26 : decode cX9_kept 26 = .ok (.aload_n 3, 1) := by decide +kernel
theorem dX9_kept_27 : decode cX9_kept 27 = .ok (.invokevirtual 123, 3) := by decide +kernel
theorem dX9_kept_30 : decode cX9_kept 30 = .ok (.aload_n 0, 1) := by decide +kernel
theorem dX9_kept_31 : decode cX9_kept 31 = .ok (.iload_n 2, 1) := by decide +kernel
theorem dX9_kept_32 : decode cX9_kept 32 = .ok (.invokevirtual 127, 3) := by decide +kernel
theorem dX9_kept_35 : decode cX9_kept 35 = .ok (.ireturn, 1) := by decide +kernel
theorem dX9_step_0 : decode cX9_step 0 = .ok (.aload_n 0, 1) := by decide +kernel
theorem dX9_step_1 : decode cX9_step 1 = .ok (.getfield 41, 3) := by decide +kernel
theorem dX9_step_4 : decode cX9_step 4 = .ok (.getfield 198, 3) := by decide +kernel
theorem dX9_step_7 : decode cX9_step 7 = .ok (.ifCond .ne 5, 3) := by decide +kernel
theorem dX9_step_10 : decode cX9_step 10 = .ok (.iconst (-1), 1) := by decide +kernel
theorem dX9_step_11 : decode cX9_step 11 = .ok (.ireturn, 1) := by decide +kernel
theorem dX9_step_12 : decode cX9_step 12 = .ok (.iload_n 1, 1) := by decide +kernel
theorem dX9_step_13 : decode cX9_step 13 = .ok (.iconst (-1), 1) := by decide +kernel
theorem dX9_step_14 : decode cX9_step 14 = .ok (.if_icmp .ne 14, 3) := by decide +kernel
theorem dX9_step_17 : decode cX9_step 17 = .ok (.aload_n 0, 1) := by decide +kernel
theorem dX9_step_18 : decode cX9_step 18 = .ok (.getfield 41, 3) := by decide +kernel
theorem dX9_step_21 : decode cX9_step 21 = .ok (.iload_n 2, 1) := by decide +kernel
theorem dX9_step_22 : decode cX9_step 22 = .ok (.invokevirtual 202, 3) := by decide +kernel
theorem dX9_step_25 : decode cX9_step 25 = .ok (.goto 12, 3) := by decide +kernel
theorem dX9_step_28 : decode cX9_step 28 = .ok (.aload_n 0, 1) := by decide +kernel
theorem dX9_step_29 : decode cX9_step 29 = .ok (.getfield 41, 3) := by decide +kernel
theorem dX9_step_32 : decode cX9_step 32 = .ok (.iload_n 1, 1) := by decide +kernel
theorem dX9_step_33 : decode cX9_step 33 = .ok (.iload_n 2, 1) := by decide +kernel
theorem dX9_step_34 : decode cX9_step 34 = .ok (.invokevirtual 205, 3) := by decide +kernel
theorem dX9_step_37 : decode cX9_step 37 = .ok (.ireturn, 1) := by decide +kernel
theorem dX9_stairs_0 : decode cX9_stairs 0 = .ok (.iload_n 1, 1) := by decide +kernel
theorem dX9_stairs_1 : decode cX9_stairs 1 = .ok (.invokestatic 184, 3) := by decide +kernel
theorem dX9_stairs_4 : decode cX9_stairs 4 = .ok (.ifCond .eq 21, 3) := by decide +kernel
theorem dX9_stairs_7 : decode cX9_stairs 7 = .ok (.aload_n 0, 1) := by decide +kernel
theorem dX9_stairs_8 : decode cX9_stairs 8 = .ok (.iload_n 2, 1) := by decide +kernel
theorem dX9_stairs_9 : decode cX9_stairs 9 = .ok (.invokevirtual 208, 3) := by decide +kernel
theorem dX9_stairs_12 : decode cX9_stairs 12 = .ok (.ifCond .eq 13, 3) := by decide +kernel
theorem dX9_stairs_15 : decode cX9_stairs 15 = .ok (.iload_n 3, 1) := by decide +kernel
theorem dX9_stairs_16 : decode cX9_stairs 16 = .ok (.iconst (-1), 1) := by decide +kernel
theorem dX9_stairs_17 : decode cX9_stairs 17 = .ok (.if_icmp .lt 8, 3) := by decide +kernel
theorem dX9_stairs_20 : decode cX9_stairs 20 = .ok (.iload_n 3, 1) := by decide +kernel
theorem dX9_stairs_21 : decode cX9_stairs 21 = .ok (.iload_n 2, 1) := by decide +kernel
theorem dX9_stairs_22 : decode cX9_stairs 22 = .ok (.if_icmp .lt 5, 3) := by decide +kernel
theorem dX9_stairs_25 : decode cX9_stairs 25 = .ok (.iconst (-1), 1) := by decide +kernel
theorem dX9_stairs_26 : decode cX9_stairs 26 = .ok (.ireturn, 1) := by decide +kernel
theorem dX9_stairs_27 : decode cX9_stairs 27 = .ok (.iload_n 3, 1) := by decide +kernel
theorem dX9_stairs_28 : decode cX9_stairs 28 = .ok (.iconst (-1), 1) := by decide +kernel
theorem dX9_stairs_29 : decode cX9_stairs 29 = .ok (.if_icmp .ne 7, 3) := by decide +kernel
theorem dX9_stairs_32 : decode cX9_stairs 32 = .ok (.iconst 0, 1) := by decide +kernel
theorem dX9_stairs_33 : decode cX9_stairs 33 = .ok (.goto 12, 3) := by decide +kernel
theorem dX9_stairs_36 : decode cX9_stairs 36 = .ok (.aload_n 0, 1) := by decide +kernel
theorem dX9_stairs_37 : decode cX9_stairs 37 = .ok (.getfield 12, 3) := by decide +kernel
theorem dX9_stairs_40 : decode cX9_stairs 40 = .ok (.getfield 215, 3) := by decide +kernel
theorem dX9_stairs_43 : decode cX9_stairs 43 = .ok (.iload_n 3, 1) := by decide +kernel
theorem dX9_stairs_44 : decode cX9_stairs 44 = .ok (.iaload, 1) := by decide +kernel
theorem dX9_stairs_45 : decode cX9_stairs 45 = .ok (.istore 4, 2) := by decide +kernel
theorem dX9_stairs_47 : decode cX9_stairs 47 = .ok (.iload_n 3, 1) := by decide +kernel
theorem dX9_stairs_48 : decode cX9_stairs 48 = .ok (.iconst (-1), 1) := by decide +kernel
theorem dX9_stairs_49 : decode cX9_stairs 49 = .ok (.if_icmp .ne 15, 3) := by decide +kernel
theorem dX9_stairs_52 : decode cX9_stairs 52 = .ok (.aload_n 0, 1) := by decide +kernel
theorem dX9_stairs_53 : decode cX9_stairs 53 = .ok (.getfield 12, 3) := by decide +kernel
theorem dX9_stairs_56 : decode cX9_stairs 56 = .ok (.getfield 215, 3) := by decide +kernel
theorem dX9_stairs_59 : decode cX9_stairs 59 = .ok (.iload_n 2, 1) := by decide +kernel
theorem dX9_stairs_60 : decode cX9_stairs 60 = .ok (.iaload, 1) := by decide +kernel
theorem dX9_stairs_61 : decode cX9_stairs 61 = .ok (.goto 14, 3) := by decide +kernel
theorem dX9_stairs_64 : decode cX9_stairs 64 = .ok (.aload_n 0, 1) := by decide +kernel
theorem dX9_stairs_65 : decode cX9_stairs 65 = .ok (.getfield 12, 3) := by decide +kernel
theorem dX9_stairs_68 : decode cX9_stairs 68 = .ok (.getfield 215, 3) := by decide +kernel
theorem dX9_stairs_71 : decode cX9_stairs 71 = .ok (.iload_n 3, 1) := by decide +kernel
theorem dX9_stairs_72 : decode cX9_stairs 72 = .ok (.iconst 1, 1) := by decide +kernel
theorem dX9_stairs_73 : decode cX9_stairs 73 = .ok (.iadd, 1) := by decide +kernel
theorem dX9_stairs_74 : decode cX9_stairs 74 = .ok (.iaload, 1) := by decide +kernel
theorem dX9_stairs_75 : decode cX9_stairs 75 = .ok (.istore 5, 2) := by decide +kernel
theorem dX9_stairs_77 : decode cX9_stairs 77 = .ok (.aload_n 0, 1) := by decide +kernel
theorem dX9_stairs_78 : decode cX9_stairs 78 = .ok (.iload_n 1, 1) := by decide +kernel
theorem dX9_stairs_79 : decode cX9_stairs 79 = .ok (.invokevirtual 211, 3) := by decide +kernel
theorem dX9_stairs_82 : decode cX9_stairs 82 = .ok (.iconst 0, 1) := by decide +kernel
theorem dX9_stairs_83 : decode cX9_stairs 83 = .ok (.iload 4, 2) := by decide +kernel
theorem dX9_stairs_85 : decode cX9_stairs 85 = .ok (.iload 5, 2) := by decide +kernel
theorem dX9_stairs_87 : decode cX9_stairs 87 = .ok (.invokevirtual 218, 3) := by decide +kernel
theorem dX9_stairs_90 : decode cX9_stairs 90 = .ok (.ireturn, 1) := by decide +kernel
theorem dX9_rest_0 : decode cX9_rest 0 = .ok (.iload_n 1, 1) := by decide +kernel
theorem dX9_rest_1 : decode cX9_rest 1 = .ok (.invokestatic 111, 3) := by decide +kernel
theorem dX9_rest_4 : decode cX9_rest 4 = .ok (.ifCond .eq 26, 3) := by decide +kernel
theorem dX9_rest_7 : decode cX9_rest 7 = .ok (.iload_n 2, 1) := by decide +kernel
theorem dX9_rest_8 : decode cX9_rest 8 = .ok (.invokestatic 184, 3) := by decide +kernel
theorem dX9_rest_11 : decode cX9_rest 11 = .ok (.ifCond .eq 19, 3) := by decide +kernel
theorem dX9_rest_14 : decode cX9_rest 14 = .ok (.aload_n 0, 1) := by decide +kernel
theorem dX9_rest_15 : decode cX9_rest 15 = .ok (.iload_n 3, 1) := by decide +kernel
theorem dX9_rest_16 : decode cX9_rest 16 = .ok (.invokevirtual 208, 3) := by decide +kernel
theorem dX9_rest_19 : decode cX9_rest 19 = .ok (.ifCond .eq 11, 3) := by decide +kernel
theorem dX9_rest_22 : decode cX9_rest 22 = .ok (.iload 4, 2) := by decide +kernel
theorem dX9_rest_24 : decode cX9_rest 24 = .ok (.invokestatic 111, 3) := by decide +kernel
theorem dX9_rest_27 : decode cX9_rest 27 = .ok (.ifCond .ne 5, 3) := by decide +kernel
theorem dX9_rest_30 : decode cX9_rest 30 = .ok (.iconst (-1), 1) := by decide +kernel
theorem dX9_rest_31 : decode cX9_rest 31 = .ok (.ireturn, 1) := by decide +kernel
theorem dX9_rest_32 : decode cX9_rest 32 = .ok (.aload_n 0, 1) := by decide +kernel
theorem dX9_rest_33 : decode cX9_rest 33 = .ok (.iload_n 2, 1) := by decide +kernel
theorem dX9_rest_34 : decode cX9_rest 34 = .ok (.invokevirtual 211, 3) := by decide +kernel
theorem dX9_rest_37 : decode cX9_rest 37 = .ok (.aload_n 0, 1) := by decide +kernel
theorem dX9_rest_38 : decode cX9_rest 38 = .ok (.getfield 20, 3) := by decide +kernel
theorem dX9_rest_41 : decode cX9_rest 41 = .ok (.iload_n 1, 1) := by decide +kernel
theorem dX9_rest_42 : decode cX9_rest 42 = .ok (.aaload, 1) := by decide +kernel
theorem dX9_rest_43 : decode cX9_rest 43 = .ok (.iload_n 3, 1) := by decide +kernel
theorem dX9_rest_44 : decode cX9_rest 44 = .ok (.aload_n 0, 1) := by decide +kernel
theorem dX9_rest_45 : decode cX9_rest 45 = .ok (.getfield 60, 3) := by decide +kernel
theorem dX9_rest_48 : decode cX9_rest 48 = .ok (.aload_n 0, 1) := by decide +kernel
theorem dX9_rest_49 : decode cX9_rest 49 = .ok (.getfield 12, 3) := by decide +kernel
theorem dX9_rest_52 : decode cX9_rest 52 = .ok (.invokevirtual 226, 3) := by decide +kernel
theorem dX9_rest_55 : decode cX9_rest 55 = .ok (.istore 5, 2) := by decide +kernel
theorem dX9_rest_57 : decode cX9_rest 57 = .ok (.iload 5, 2) := by decide +kernel
theorem dX9_rest_59 : decode cX9_rest 59 = .ok (.ifCond .eq 12, 3) := by decide +kernel
theorem dX9_rest_62 : decode cX9_rest 62 = .ok (.aload_n 0, 1) := by decide +kernel
theorem dX9_rest_63 : decode cX9_rest 63 = .ok (.iload 4, 2) := by decide +kernel
theorem dX9_rest_65 : decode cX9_rest 65 = .ok (.invokevirtual 127, 3) := by decide +kernel
theorem dX9_rest_68 : decode cX9_rest 68 = .ok (.goto 4, 3) := by decide +kernel
theorem dX9_rest_71 : decode cX9_rest 71 = .ok (.iconst (-1), 1) := by decide +kernel
theorem dX9_rest_72 : decode cX9_rest 72 = .ok (.ireturn, 1) := by decide +kernel
theorem dX9_look_0 : decode cX9_look 0 = .ok (.iload_n 1, 1) := by decide +kernel
theorem dX9_look_1 : decode cX9_look 1 = .ok (.tableswitch 174 0 10 #[59, 67, 78, 78, 78, 90, 98, 106, 114, 130, 152], 59) := by decide +kernel
theorem dX9_look_60 : decode cX9_look 60 = .ok (.aload_n 0, 1) := by decide +kernel
theorem dX9_look_61 : decode cX9_look 61 = .ok (.getfield 12, 3) := by decide +kernel
theorem dX9_look_64 : decode cX9_look 64 = .ok (.getfield 74, 3) := by decide +kernel
theorem dX9_look_67 : decode cX9_look 67 = .ok (.ireturn, 1) := by decide +kernel
theorem dX9_look_68 : decode cX9_look 68 = .ok (.aload_n 0, 1) := by decide +kernel
theorem dX9_look_69 : decode cX9_look 69 = .ok (.getfield 12, 3) := by decide +kernel
theorem dX9_look_72 : decode cX9_look 72 = .ok (.getfield 81, 3) := by decide +kernel
theorem dX9_look_75 : decode cX9_look 75 = .ok (.getfield 244, 3) := by decide +kernel
theorem dX9_look_78 : decode cX9_look 78 = .ok (.ireturn, 1) := by decide +kernel
theorem dX9_look_79 : decode cX9_look 79 = .ok (.aload_n 0, 1) := by decide +kernel
theorem dX9_look_80 : decode cX9_look 80 = .ok (.getfield 12, 3) := by decide +kernel
theorem dX9_look_83 : decode cX9_look 83 = .ok (.getfield 247, 3) := by decide +kernel
theorem dX9_look_86 : decode cX9_look 86 = .ok (.iload_n 1, 1) := by decide +kernel
theorem dX9_look_87 : decode cX9_look 87 = .ok (.iconst 2, 1) := by decide +kernel
theorem dX9_look_88 : decode cX9_look 88 = .ok (.isub, 1) := by decide +kernel
theorem dX9_look_89 : decode cX9_look 89 = .ok (.iaload, 1) := by decide +kernel
theorem dX9_look_90 : decode cX9_look 90 = .ok (.ireturn, 1) := by decide +kernel
theorem dX9_look_91 : decode cX9_look 91 = .ok (.aload_n 0, 1) := by decide +kernel
theorem dX9_look_92 : decode cX9_look 92 = .ok (.getfield 12, 3) := by decide +kernel
theorem dX9_look_95 : decode cX9_look 95 = .ok (.invokevirtual 250, 3) := by decide +kernel
theorem dX9_look_98 : decode cX9_look 98 = .ok (.ireturn, 1) := by decide +kernel
theorem dX9_look_99 : decode cX9_look 99 = .ok (.aload_n 0, 1) := by decide +kernel
theorem dX9_look_100 : decode cX9_look 100 = .ok (.sipush 255, 3) := by decide +kernel
theorem dX9_look_103 : decode cX9_look 103 = .ok (.invokevirtual 187, 3) := by decide +kernel
theorem dX9_look_106 : decode cX9_look 106 = .ok (.ireturn, 1) := by decide +kernel
theorem dX9_look_107 : decode cX9_look 107 = .ok (.aload_n 0, 1) := by decide +kernel
theorem dX9_look_108 : decode cX9_look 108 = .ok (.getfield 27, 3) := by decide +kernel
theorem dX9_look_111 : decode cX9_look 111 = .ok (.getfield 102, 3) := by decide +kernel
theorem dX9_look_114 : decode cX9_look 114 = .ok (.ireturn, 1) := by decide +kernel
theorem dX9_look_115 : decode cX9_look 115 = .ok (.aload_n 0, 1) := by decide +kernel
theorem dX9_look_116 : decode cX9_look 116 = .ok (.getfield 41, 3) := by decide +kernel
theorem dX9_look_119 : decode cX9_look 119 = .ok (.getfield 198, 3) := by decide +kernel
theorem dX9_look_122 : decode cX9_look 122 = .ok (.ifCond .eq 7, 3) := by decide +kernel
theorem dX9_look_125 : decode cX9_look 125 = .ok (.iconst 1, 1) := by decide +kernel
theorem dX9_look_126 : decode cX9_look 126 = .ok (.goto 4, 3) := by decide +kernel
theorem dX9_look_129 : decode cX9_look 129 = .ok (.iconst 0, 1) := by decide +kernel
theorem dX9_look_130 : decode cX9_look 130 = .ok (.ireturn, 1) := by decide +kernel
theorem dX9_look_131 : decode cX9_look 131 = .ok (.aload_n 0, 1) := by decide +kernel
theorem dX9_look_132 : decode cX9_look 132 = .ok (.getfield 41, 3) := by decide +kernel
theorem dX9_look_135 : decode cX9_look 135 = .ok (.getfield 198, 3) := by decide +kernel
theorem dX9_look_138 : decode cX9_look 138 = .ok (.ifCond .eq 13, 3) := by decide +kernel
theorem dX9_look_141 : decode cX9_look 141 = .ok (.aload_n 0, 1) := by decide +kernel
theorem dX9_look_142 : decode cX9_look 142 = .ok (.getfield 41, 3) := by decide +kernel
theorem dX9_look_145 : decode cX9_look 145 = .ok (.getfield 253, 3) := by decide +kernel
theorem dX9_look_148 : decode cX9_look 148 = .ok (.goto 4, 3) := by decide +kernel
theorem dX9_look_151 : decode cX9_look 151 = .ok (.iconst (-1), 1) := by decide +kernel
theorem dX9_look_152 : decode cX9_look 152 = .ok (.ireturn, 1) := by decide +kernel
theorem dX9_look_153 : decode cX9_look 153 = .ok (.aload_n 0, 1) := by decide +kernel
theorem dX9_look_154 : decode cX9_look 154 = .ok (.getfield 41, 3) := by decide +kernel
theorem dX9_look_157 : decode cX9_look 157 = .ok (.getfield 198, 3) := by decide +kernel
theorem dX9_look_160 : decode cX9_look 160 = .ok (.ifCond .eq 13, 3) := by decide +kernel
theorem dX9_look_163 : decode cX9_look 163 = .ok (.aload_n 0, 1) := by decide +kernel
theorem dX9_look_164 : decode cX9_look 164 = .ok (.getfield 41, 3) := by decide +kernel
theorem dX9_look_167 : decode cX9_look 167 = .ok (.getfield 256, 3) := by decide +kernel
theorem dX9_look_170 : decode cX9_look 170 = .ok (.goto 4, 3) := by decide +kernel
theorem dX9_look_173 : decode cX9_look 173 = .ok (.iconst (-1), 1) := by decide +kernel
theorem dX9_look_174 : decode cX9_look 174 = .ok (.ireturn, 1) := by decide +kernel
theorem dX9_look_175 : decode cX9_look 175 = .ok (.iconst (-1), 1) := by decide +kernel
theorem dX9_look_176 : decode cX9_look 176 = .ok (.ireturn, 1) := by decide +kernel
theorem dX9_polys_0 : decode cX9_polys 0 = .ok (.iload_n 0, 1) := by decide +kernel
theorem dX9_polys_1 : decode cX9_polys 1 = .ok (.iconst 0, 1) := by decide +kernel
theorem dX9_polys_2 : decode cX9_polys 2 = .ok (.invokestatic 259, 3) := by decide +kernel
theorem dX9_polys_5 : decode cX9_polys 5 = .ok (.anewarray 55, 3) := by decide +kernel
theorem dX9_polys_8 : decode cX9_polys 8 = .ok (.astore_n 1, 1) := by decide +kernel
theorem dX9_polys_9 : decode cX9_polys 9 = .ok (.iconst 0, 1) := by decide +kernel
theorem dX9_polys_10 : decode cX9_polys 10 = .ok (.istore_n 2, 1) := by decide +kernel
theorem dX9_polys_11 : decode cX9_polys 11 = .ok (.iload_n 2, 1) := by decide +kernel
theorem dX9_polys_12 : decode cX9_polys 12 = .ok (.aload_n 1, 1) := by decide +kernel
theorem dX9_polys_13 : decode cX9_polys 13 = .ok (.arraylength, 1) := by decide +kernel
theorem dX9_polys_14 : decode cX9_polys 14 = .ok (.if_icmp .ge 21, 3) := by decide +kernel
theorem dX9_polys_17 : decode cX9_polys 17 = .ok (.aload_n 1, 1) := by decide +kernel
theorem dX9_polys_18 : decode cX9_polys 18 = .ok (.iload_n 2, 1) := by decide +kernel
theorem dX9_polys_19 : decode cX9_polys 19 = .ok (.new 55, 3) := by decide +kernel
theorem dX9_polys_22 : decode cX9_polys 22 = .ok (.dup, 1) := by decide +kernel
theorem dX9_polys_23 : decode cX9_polys 23 = .ok (.bipush 60, 2) := by decide +kernel
theorem dX9_polys_25 : decode cX9_polys 25 = .ok (.invokespecial 57, 3) := by decide +kernel
theorem dX9_polys_28 : decode cX9_polys 28 = .ok (.aastore, 1) := by decide +kernel
theorem dX9_polys_29 : decode cX9_polys 29 = .ok (.iinc 2 1, 3) := by decide +kernel
theorem dX9_polys_32 : decode cX9_polys 32 = .ok (.goto (-21), 3) := by decide +kernel
theorem dX9_polys_35 : decode cX9_polys 35 = .ok (.aload_n 1, 1) := by decide +kernel
theorem dX9_polys_36 : decode cX9_polys 36 = .ok (.areturn, 1) := by decide +kernel
theorem dX9_isPrime_0 : decode cX9_isPrime 0 = .ok (.iload_n 0, 1) := by decide +kernel
theorem dX9_isPrime_1 : decode cX9_isPrime 1 = .ok (.iconst 2, 1) := by decide +kernel
theorem dX9_isPrime_2 : decode cX9_isPrime 2 = .ok (.if_icmp .lt 10, 3) := by decide +kernel
theorem dX9_isPrime_5 : decode cX9_isPrime 5 = .ok (.iload_n 0, 1) := by decide +kernel
theorem dX9_isPrime_6 : decode cX9_isPrime 6 = .ok (.sipush 32749, 3) := by decide +kernel
theorem dX9_isPrime_9 : decode cX9_isPrime 9 = .ok (.if_icmp .le 5, 3) := by decide +kernel
theorem dX9_isPrime_12 : decode cX9_isPrime 12 = .ok (.iconst 0, 1) := by decide +kernel
theorem dX9_isPrime_13 : decode cX9_isPrime 13 = .ok (.ireturn, 1) := by decide +kernel
theorem dX9_isPrime_14 : decode cX9_isPrime 14 = .ok (.iconst 2, 1) := by decide +kernel
theorem dX9_isPrime_15 : decode cX9_isPrime 15 = .ok (.istore_n 1, 1) := by decide +kernel
theorem dX9_isPrime_16 : decode cX9_isPrime 16 = .ok (.iload_n 1, 1) := by decide +kernel
theorem dX9_isPrime_17 : decode cX9_isPrime 17 = .ok (.iload_n 1, 1) := by decide +kernel
theorem dX9_isPrime_18 : decode cX9_isPrime 18 = .ok (.imul, 1) := by decide +kernel
theorem dX9_isPrime_19 : decode cX9_isPrime 19 = .ok (.iload_n 0, 1) := by decide +kernel
theorem dX9_isPrime_20 : decode cX9_isPrime 20 = .ok (.if_icmp .gt 17, 3) := by decide +kernel
theorem dX9_isPrime_23 : decode cX9_isPrime 23 = .ok (.iload_n 0, 1) := by decide +kernel
theorem dX9_isPrime_24 : decode cX9_isPrime 24 = .ok (.iload_n 1, 1) := by decide +kernel
theorem dX9_isPrime_25 : decode cX9_isPrime 25 = .ok (.irem, 1) := by decide +kernel
theorem dX9_isPrime_26 : decode cX9_isPrime 26 = .ok (.ifCond .ne 5, 3) := by decide +kernel
theorem dX9_isPrime_29 : decode cX9_isPrime 29 = .ok (.iconst 0, 1) := by decide +kernel
theorem dX9_isPrime_30 : decode cX9_isPrime 30 = .ok (.ireturn, 1) := by decide +kernel
theorem dX9_isPrime_31 : decode cX9_isPrime 31 = .ok (.iinc 1 1, 3) := by decide +kernel
theorem dX9_isPrime_34 : decode cX9_isPrime 34 = .ok (.goto (-18), 3) := by decide +kernel
theorem dX9_isPrime_37 : decode cX9_isPrime 37 = .ok (.iconst 1, 1) := by decide +kernel
theorem dX9_isPrime_38 : decode cX9_isPrime 38 = .ok (.ireturn, 1) := by decide +kernel
theorem dX9_isWeight_0 : decode cX9_isWeight 0 = .ok (.iload_n 0, 1) := by decide +kernel
theorem dX9_isWeight_1 : decode cX9_isWeight 1 = .ok (.iconst 1, 1) := by decide +kernel
theorem dX9_isWeight_2 : decode cX9_isWeight 2 = .ok (.if_icmp .lt 12, 3) := by decide +kernel
theorem dX9_isWeight_5 : decode cX9_isWeight 5 = .ok (.iload_n 0, 1) := by decide +kernel
theorem dX9_isWeight_6 : decode cX9_isWeight 6 = .ok (.iconst 4, 1) := by decide +kernel
theorem dX9_isWeight_7 : decode cX9_isWeight 7 = .ok (.if_icmp .gt 7, 3) := by decide +kernel
theorem dX9_isWeight_10 : decode cX9_isWeight 10 = .ok (.iconst 1, 1) := by decide +kernel
theorem dX9_isWeight_11 : decode cX9_isWeight 11 = .ok (.goto 4, 3) := by decide +kernel
theorem dX9_isWeight_14 : decode cX9_isWeight 14 = .ok (.iconst 0, 1) := by decide +kernel
theorem dX9_isWeight_15 : decode cX9_isWeight 15 = .ok (.ireturn, 1) := by decide +kernel
theorem dX9_isSlot_0 : decode cX9_isSlot 0 = .ok (.iload_n 0, 1) := by decide +kernel
theorem dX9_isSlot_1 : decode cX9_isSlot 1 = .ok (.ifCond .lt 13, 3) := by decide +kernel
theorem dX9_isSlot_4 : decode cX9_isSlot 4 = .ok (.iload_n 0, 1) := by decide +kernel
theorem dX9_isSlot_5 : decode cX9_isSlot 5 = .ok (.bipush 8, 2) := by decide +kernel
theorem dX9_isSlot_7 : decode cX9_isSlot 7 = .ok (.if_icmp .ge 7, 3) := by decide +kernel
theorem dX9_isSlot_10 : decode cX9_isSlot 10 = .ok (.iconst 1, 1) := by decide +kernel
theorem dX9_isSlot_11 : decode cX9_isSlot 11 = .ok (.goto 4, 3) := by decide +kernel
theorem dX9_isSlot_14 : decode cX9_isSlot 14 = .ok (.iconst 0, 1) := by decide +kernel
theorem dX9_isSlot_15 : decode cX9_isSlot 15 = .ok (.ireturn, 1) := by decide +kernel
theorem dX9_isSet_0 : decode cX9_isSet 0 = .ok (.iload_n 0, 1) := by decide +kernel
theorem dX9_isSet_1 : decode cX9_isSet 1 = .ok (.ifCond .lt 14, 3) := by decide +kernel
theorem dX9_isSet_4 : decode cX9_isSet 4 = .ok (.iload_n 0, 1) := by decide +kernel
theorem dX9_isSet_5 : decode cX9_isSet 5 = .ok (.sipush 256, 3) := by decide +kernel
theorem dX9_isSet_8 : decode cX9_isSet 8 = .ok (.if_icmp .ge 7, 3) := by decide +kernel
theorem dX9_isSet_11 : decode cX9_isSet 11 = .ok (.iconst 1, 1) := by decide +kernel
theorem dX9_isSet_12 : decode cX9_isSet 12 = .ok (.goto 4, 3) := by decide +kernel
theorem dX9_isSet_15 : decode cX9_isSet 15 = .ok (.iconst 0, 1) := by decide +kernel
theorem dX9_isSet_16 : decode cX9_isSet 16 = .ok (.ireturn, 1) := by decide +kernel
theorem dX9_isBound_0 : decode cX9_isBound 0 = .ok (.iload_n 1, 1) := by decide +kernel
theorem dX9_isBound_1 : decode cX9_isBound 1 = .ok (.iconst 1, 1) := by decide +kernel
theorem dX9_isBound_2 : decode cX9_isBound 2 = .ok (.if_icmp .lt 18, 3) := by decide +kernel
theorem dX9_isBound_5 : decode cX9_isBound 5 = .ok (.iload_n 1, 1) := by decide +kernel
theorem dX9_isBound_6 : decode cX9_isBound 6 = .ok (.aload_n 0, 1) := by decide +kernel
theorem dX9_isBound_7 : decode cX9_isBound 7 = .ok (.getfield 12, 3) := by decide +kernel
theorem dX9_isBound_10 : decode cX9_isBound 10 = .ok (.invokevirtual 250, 3) := by decide +kernel
theorem dX9_isBound_13 : decode cX9_isBound 13 = .ok (.if_icmp .gt 7, 3) := by decide +kernel
theorem dX9_isBound_16 : decode cX9_isBound 16 = .ok (.iconst 1, 1) := by decide +kernel
theorem dX9_isBound_17 : decode cX9_isBound 17 = .ok (.goto 4, 3) := by decide +kernel
theorem dX9_isBound_20 : decode cX9_isBound 20 = .ok (.iconst 0, 1) := by decide +kernel
theorem dX9_isBound_21 : decode cX9_isBound 21 = .ok (.ireturn, 1) := by decide +kernel
theorem dX9_held_0 : decode cX9_held 0 = .ok (.iconst 0, 1) := by decide +kernel
theorem dX9_held_1 : decode cX9_held 1 = .ok (.istore_n 2, 1) := by decide +kernel
theorem dX9_held_2 : decode cX9_held 2 = .ok (.iconst 0, 1) := by decide +kernel
theorem dX9_held_3 : decode cX9_held 3 = .ok (.istore_n 3, 1) := by decide +kernel
theorem dX9_held_4 : decode cX9_held 4 = .ok (.iload_n 3, 1) := by decide +kernel
theorem dX9_held_5 : decode cX9_held 5 = .ok (.bipush 8, 2) := by decide +kernel
theorem dX9_held_7 : decode cX9_held 7 = .ok (.if_icmp .ge 36, 3) := by decide +kernel
theorem dX9_held_10 : decode cX9_held 10 = .ok (.iload_n 1, 1) := by decide +kernel
theorem dX9_held_11 : decode cX9_held 11 = .ok (.iload_n 3, 1) := by decide +kernel
theorem dX9_held_12 : decode cX9_held 12 = .ok (.ishr, 1) := by decide +kernel
theorem dX9_held_13 : decode cX9_held 13 = .ok (.iconst 1, 1) := by decide +kernel
theorem dX9_held_14 : decode cX9_held 14 = .ok (.iand, 1) := by decide +kernel
theorem dX9_held_15 : decode cX9_held 15 = .ok (.iconst 1, 1) := by decide +kernel
theorem dX9_held_16 : decode cX9_held 16 = .ok (.if_icmp .ne 21, 3) := by decide +kernel
theorem dX9_held_19 : decode cX9_held 19 = .ok (.aload_n 0, 1) := by decide +kernel
theorem dX9_held_20 : decode cX9_held 20 = .ok (.getfield 20, 3) := by decide +kernel
theorem dX9_held_23 : decode cX9_held 23 = .ok (.iload_n 3, 1) := by decide +kernel
theorem dX9_held_24 : decode cX9_held 24 = .ok (.aaload, 1) := by decide +kernel
theorem dX9_held_25 : decode cX9_held 25 = .ok (.getfield 142, 3) := by decide +kernel
theorem dX9_held_28 : decode cX9_held 28 = .ok (.ifCond .le 9, 3) := by decide +kernel
theorem dX9_held_31 : decode cX9_held 31 = .ok (.iload_n 2, 1) := by decide +kernel
theorem dX9_held_32 : decode cX9_held 32 = .ok (.iconst 1, 1) := by decide +kernel
theorem dX9_held_33 : decode cX9_held 33 = .ok (.iload_n 3, 1) := by decide +kernel
theorem dX9_held_34 : decode cX9_held 34 = .ok (.ishl, 1) := by decide +kernel
theorem dX9_held_35 : decode cX9_held 35 = .ok (.ior, 1) := by decide +kernel
theorem dX9_held_36 : decode cX9_held 36 = .ok (.istore_n 2, 1) := by decide +kernel
theorem dX9_held_37 : decode cX9_held 37 = .ok (.iinc 3 1, 3) := by decide +kernel
theorem dX9_held_40 : decode cX9_held 40 = .ok (.goto (-36), 3) := by decide +kernel
theorem dX9_held_43 : decode cX9_held 43 = .ok (.iload_n 2, 1) := by decide +kernel
theorem dX9_held_44 : decode cX9_held 44 = .ok (.ireturn, 1) := by decide +kernel
theorem dX9_putSpare_0 : decode cX9_putSpare 0 = .ok (.aload_n 0, 1) := by decide +kernel
theorem dX9_putSpare_1 : decode cX9_putSpare 1 = .ok (.getfield 20, 3) := by decide +kernel
theorem dX9_putSpare_4 : decode cX9_putSpare 4 = .ok (.iload_n 1, 1) := by decide +kernel
theorem dX9_putSpare_5 : decode cX9_putSpare 5 = .ok (.aaload, 1) := by decide +kernel
theorem dX9_putSpare_6 : decode cX9_putSpare 6 = .ok (.astore_n 2, 1) := by decide +kernel
theorem dX9_putSpare_7 : decode cX9_putSpare 7 = .ok (.aload_n 0, 1) := by decide +kernel
theorem dX9_putSpare_8 : decode cX9_putSpare 8 = .ok (.getfield 20, 3) := by decide +kernel
theorem dX9_putSpare_11 : decode cX9_putSpare 11 = .ok (.iload_n 1, 1) := by decide +kernel
theorem dX9_putSpare_12 : decode cX9_putSpare 12 = .ok (.aload_n 0, 1) := by decide +kernel
theorem dX9_putSpare_13 : decode cX9_putSpare 13 = .ok (.getfield 60, 3) := by decide +kernel
theorem dX9_putSpare_16 : decode cX9_putSpare 16 = .ok (.aastore, 1) := by decide +kernel
theorem dX9_putSpare_17 : decode cX9_putSpare 17 = .ok (.aload_n 0, 1) := by decide +kernel
theorem dX9_putSpare_18 : decode cX9_putSpare 18 = .ok (.aload_n 2, 1) := by decide +kernel
theorem dX9_putSpare_19 : decode cX9_putSpare 19 = .ok (.putfield 60, 3) := by decide +kernel
theorem dX9_putSpare_22 : decode cX9_putSpare 22 = .ok (.aload_n 0, 1) := by decide +kernel
theorem dX9_putSpare_23 : decode cX9_putSpare 23 = .ok (.getfield 47, 3) := by decide +kernel
theorem dX9_putSpare_26 : decode cX9_putSpare 26 = .ok (.astore_n 3, 1) := by decide +kernel
theorem dX9_putSpare_27 : decode cX9_putSpare 27 = .ok (.aload_n 3, 1) := by decide +kernel
theorem dX9_putSpare_28 : decode cX9_putSpare 28 = .ok (.arraylength, 1) := by decide +kernel
theorem dX9_putSpare_29 : decode cX9_putSpare 29 = .ok (.istore 4, 2) := by decide +kernel
theorem dX9_putSpare_31 : decode cX9_putSpare 31 = .ok (.iconst 0, 1) := by decide +kernel
theorem dX9_putSpare_32 : decode cX9_putSpare 32 = .ok (.istore 5, 2) := by decide +kernel
theorem dX9_putSpare_34 : decode cX9_putSpare 34 = .ok (.iload 5, 2) := by decide +kernel
theorem dX9_putSpare_36 : decode cX9_putSpare 36 = .ok (.iload 4, 2) := by decide +kernel
theorem dX9_putSpare_38 : decode cX9_putSpare 38 = .ok (.if_icmp .ge 34, 3) := by decide +kernel
theorem dX9_putSpare_41 : decode cX9_putSpare 41 = .ok (.aload_n 3, 1) := by decide +kernel
theorem dX9_putSpare_42 : decode cX9_putSpare 42 = .ok (.iload 5, 2) := by decide +kernel
theorem dX9_putSpare_44 : decode cX9_putSpare 44 = .ok (.aaload, 1) := by decide +kernel
theorem dX9_putSpare_45 : decode cX9_putSpare 45 = .ok (.astore 6, 2) := by decide +kernel
theorem dX9_putSpare_47 : decode cX9_putSpare 47 = .ok (.aload 6, 2) := by decide +kernel
theorem dX9_putSpare_49 : decode cX9_putSpare 49 = .ok (.getfield 264, 3) := by decide +kernel
theorem dX9_putSpare_52 : decode cX9_putSpare 52 = .ok (.iload_n 1, 1) := by decide +kernel
theorem dX9_putSpare_53 : decode cX9_putSpare 53 = .ok (.ishr, 1) := by decide +kernel
theorem dX9_putSpare_54 : decode cX9_putSpare 54 = .ok (.iconst 1, 1) := by decide +kernel
theorem dX9_putSpare_55 : decode cX9_putSpare 55 = .ok (.iand, 1) := by decide +kernel
theorem dX9_putSpare_56 : decode cX9_putSpare 56 = .ok (.iconst 1, 1) := by decide +kernel
theorem dX9_putSpare_57 : decode cX9_putSpare 57 = .ok (.if_icmp .ne 9, 3) := by decide +kernel
theorem dX9_putSpare_60 : decode cX9_putSpare 60 = .ok (.aload 6, 2) := by decide +kernel
theorem dX9_putSpare_62 : decode cX9_putSpare 62 = .ok (.iconst (-1), 1) := by decide +kernel
theorem dX9_putSpare_63 : decode cX9_putSpare 63 = .ok (.putfield 264, 3) := by decide +kernel
theorem dX9_putSpare_66 : decode cX9_putSpare 66 = .ok (.iinc 5 1, 3) := by decide +kernel
theorem dX9_putSpare_69 : decode cX9_putSpare 69 = .ok (.goto (-35), 3) := by decide +kernel
theorem dX9_putSpare_72 : decode cX9_putSpare 72 = .ok (.aload_n 0, 1) := by decide +kernel
theorem dX9_putSpare_73 : decode cX9_putSpare 73 = .ok (.getfield 20, 3) := by decide +kernel
theorem dX9_putSpare_76 : decode cX9_putSpare 76 = .ok (.iload_n 1, 1) := by decide +kernel
theorem dX9_putSpare_77 : decode cX9_putSpare 77 = .ok (.aaload, 1) := by decide +kernel
theorem dX9_putSpare_78 : decode cX9_putSpare 78 = .ok (.getfield 142, 3) := by decide +kernel
theorem dX9_putSpare_81 : decode cX9_putSpare 81 = .ok (.ireturn, 1) := by decide +kernel
theorem dX9_forgetWhatWasWorkedOut_0 : decode cX9_forgetWhatWasWorkedOut 0 = .ok (.aload_n 0, 1) := by decide +kernel
theorem dX9_forgetWhatWasWorkedOut_1 : decode cX9_forgetWhatWasWorkedOut 1 = .ok (.getfield 41, 3) := by decide +kernel
theorem dX9_forgetWhatWasWorkedOut_4 : decode cX9_forgetWhatWasWorkedOut 4 = .ok (.iconst 0, 1) := by decide +kernel
theorem dX9_forgetWhatWasWorkedOut_5 : decode cX9_forgetWhatWasWorkedOut 5 = .ok (.putfield 198, 3) := by decide +kernel
theorem dX9_forgetWhatWasWorkedOut_8 : decode cX9_forgetWhatWasWorkedOut 8 = .ok (.aload_n 0, 1) := by decide +kernel
theorem dX9_forgetWhatWasWorkedOut_9 : decode cX9_forgetWhatWasWorkedOut 9 = .ok (.getfield 47, 3) := by decide +kernel
theorem dX9_forgetWhatWasWorkedOut_12 : decode cX9_forgetWhatWasWorkedOut 12 = .ok (.astore_n 1, 1) := by decide +kernel
theorem dX9_forgetWhatWasWorkedOut_13 : decode cX9_forgetWhatWasWorkedOut 13 = .ok (.aload_n 1, 1) := by decide +kernel
theorem dX9_forgetWhatWasWorkedOut_14 : decode cX9_forgetWhatWasWorkedOut 14 = .ok (.arraylength, 1) := by decide +kernel
theorem dX9_forgetWhatWasWorkedOut_15 : decode cX9_forgetWhatWasWorkedOut 15 = .ok (.istore_n 2, 1) := by decide +kernel
theorem dX9_forgetWhatWasWorkedOut_16 : decode cX9_forgetWhatWasWorkedOut 16 = .ok (.iconst 0, 1) := by decide +kernel
theorem dX9_forgetWhatWasWorkedOut_17 : decode cX9_forgetWhatWasWorkedOut 17 = .ok (.istore_n 3, 1) := by decide +kernel
theorem dX9_forgetWhatWasWorkedOut_18 : decode cX9_forgetWhatWasWorkedOut 18 = .ok (.iload_n 3, 1) := by decide +kernel
theorem dX9_forgetWhatWasWorkedOut_19 : decode cX9_forgetWhatWasWorkedOut 19 = .ok (.iload_n 2, 1) := by decide +kernel
theorem dX9_forgetWhatWasWorkedOut_20 : decode cX9_forgetWhatWasWorkedOut 20 = .ok (.if_icmp .ge 20, 3) := by decide +kernel
theorem dX9_forgetWhatWasWorkedOut_23 : decode cX9_forgetWhatWasWorkedOut 23 = .ok (.aload_n 1, 1) := by decide +kernel
theorem dX9_forgetWhatWasWorkedOut_24 : decode cX9_forgetWhatWasWorkedOut 24 = .ok (.iload_n 3, 1) := by decide +kernel
theorem dX9_forgetWhatWasWorkedOut_25 : decode cX9_forgetWhatWasWorkedOut 25 = .ok (.aaload, 1) := by decide +kernel
theorem dX9_forgetWhatWasWorkedOut_26 : decode cX9_forgetWhatWasWorkedOut 26 = .ok (.astore 4, 2) := by decide +kernel
theorem dX9_forgetWhatWasWorkedOut_28 : decode cX9_forgetWhatWasWorkedOut 28 = .ok (.aload 4, 2) := by decide +kernel
theorem dX9_forgetWhatWasWorkedOut_30 : decode cX9_forgetWhatWasWorkedOut 30 = .ok (.iconst (-1), 1) := by decide +kernel
theorem dX9_forgetWhatWasWorkedOut_31 : decode cX9_forgetWhatWasWorkedOut 31 = .ok (.putfield 264, 3) := by decide +kernel
theorem dX9_forgetWhatWasWorkedOut_34 : decode cX9_forgetWhatWasWorkedOut 34 = .ok (.iinc 3 1, 3) := by decide +kernel
theorem dX9_forgetWhatWasWorkedOut_37 : decode cX9_forgetWhatWasWorkedOut 37 = .ok (.goto (-19), 3) := by decide +kernel
theorem dX9_forgetWhatWasWorkedOut_40 : decode cX9_forgetWhatWasWorkedOut 40 = .ok (.return_, 1) := by decide +kernel
theorem dX9_multiply_0 : decode cX9_multiply 0 = .ok (.aload_n 0, 1) := by decide +kernel
theorem dX9_multiply_1 : decode cX9_multiply 1 = .ok (.getfield 64, 3) := by decide +kernel
theorem dX9_multiply_4 : decode cX9_multiply 4 = .ok (.invokevirtual 89, 3) := by decide +kernel
theorem dX9_multiply_7 : decode cX9_multiply 7 = .ok (.iconst 0, 1) := by decide +kernel
theorem dX9_multiply_8 : decode cX9_multiply 8 = .ok (.istore_n 3, 1) := by decide +kernel
theorem dX9_multiply_9 : decode cX9_multiply 9 = .ok (.iload_n 3, 1) := by decide +kernel
theorem dX9_multiply_10 : decode cX9_multiply 10 = .ok (.aload_n 1, 1) := by decide +kernel
theorem dX9_multiply_11 : decode cX9_multiply 11 = .ok (.getfield 142, 3) := by decide +kernel
theorem dX9_multiply_14 : decode cX9_multiply 14 = .ok (.if_icmp .ge 65, 3) := by decide +kernel
theorem dX9_multiply_17 : decode cX9_multiply 17 = .ok (.aload_n 0, 1) := by decide +kernel
theorem dX9_multiply_18 : decode cX9_multiply 18 = .ok (.getfield 67, 3) := by decide +kernel
theorem dX9_multiply_21 : decode cX9_multiply 21 = .ok (.aload_n 0, 1) := by decide +kernel
theorem dX9_multiply_22 : decode cX9_multiply 22 = .ok (.getfield 64, 3) := by decide +kernel
theorem dX9_multiply_25 : decode cX9_multiply 25 = .ok (.aload_n 1, 1) := by decide +kernel
theorem dX9_multiply_26 : decode cX9_multiply 26 = .ok (.getfield 143, 3) := by decide +kernel
theorem dX9_multiply_29 : decode cX9_multiply 29 = .ok (.iload_n 3, 1) := by decide +kernel
theorem dX9_multiply_30 : decode cX9_multiply 30 = .ok (.iaload, 1) := by decide +kernel
theorem dX9_multiply_31 : decode cX9_multiply 31 = .ok (.aload_n 1, 1) := by decide +kernel
theorem dX9_multiply_32 : decode cX9_multiply 32 = .ok (.getfield 146, 3) := by decide +kernel
theorem dX9_multiply_35 : decode cX9_multiply 35 = .ok (.iload_n 3, 1) := by decide +kernel
theorem dX9_multiply_36 : decode cX9_multiply 36 = .ok (.iaload, 1) := by decide +kernel
theorem dX9_multiply_37 : decode cX9_multiply 37 = .ok (.aload_n 2, 1) := by decide +kernel
theorem dX9_multiply_38 : decode cX9_multiply 38 = .ok (.aload_n 0, 1) := by decide +kernel
theorem dX9_multiply_39 : decode cX9_multiply 39 = .ok (.getfield 12, 3) := by decide +kernel
theorem dX9_multiply_42 : decode cX9_multiply 42 = .ok (.getfield 81, 3) := by decide +kernel
theorem dX9_multiply_45 : decode cX9_multiply 45 = .ok (.invokevirtual 166, 3) := by decide +kernel
theorem dX9_multiply_48 : decode cX9_multiply 48 = .ok (.ifCond .ne 5, 3) := by decide +kernel
theorem dX9_multiply_51 : decode cX9_multiply 51 = .ok (.iconst 0, 1) := by decide +kernel
theorem dX9_multiply_52 : decode cX9_multiply 52 = .ok (.ireturn, 1) := by decide +kernel
theorem dX9_multiply_53 : decode cX9_multiply 53 = .ok (.aload_n 0, 1) := by decide +kernel
theorem dX9_multiply_54 : decode cX9_multiply 54 = .ok (.getfield 67, 3) := by decide +kernel
theorem dX9_multiply_57 : decode cX9_multiply 57 = .ok (.astore 4, 2) := by decide +kernel
theorem dX9_multiply_59 : decode cX9_multiply 59 = .ok (.aload_n 0, 1) := by decide +kernel
theorem dX9_multiply_60 : decode cX9_multiply 60 = .ok (.aload_n 0, 1) := by decide +kernel
theorem dX9_multiply_61 : decode cX9_multiply 61 = .ok (.getfield 64, 3) := by decide +kernel
theorem dX9_multiply_64 : decode cX9_multiply 64 = .ok (.putfield 67, 3) := by decide +kernel
theorem dX9_multiply_67 : decode cX9_multiply 67 = .ok (.aload_n 0, 1) := by decide +kernel
theorem dX9_multiply_68 : decode cX9_multiply 68 = .ok (.aload 4, 2) := by decide +kernel
theorem dX9_multiply_70 : decode cX9_multiply 70 = .ok (.putfield 64, 3) := by decide +kernel
theorem dX9_multiply_73 : decode cX9_multiply 73 = .ok (.iinc 3 1, 3) := by decide +kernel
theorem dX9_multiply_76 : decode cX9_multiply 76 = .ok (.goto (-67), 3) := by decide +kernel
theorem dX9_multiply_79 : decode cX9_multiply 79 = .ok (.aload_n 0, 1) := by decide +kernel
theorem dX9_multiply_80 : decode cX9_multiply 80 = .ok (.getfield 64, 3) := by decide +kernel
theorem dX9_multiply_83 : decode cX9_multiply 83 = .ok (.getfield 142, 3) := by decide +kernel
theorem dX9_multiply_86 : decode cX9_multiply 86 = .ok (.bipush 60, 2) := by decide +kernel
theorem dX9_multiply_88 : decode cX9_multiply 88 = .ok (.if_icmp .le 5, 3) := by decide +kernel
theorem dX9_multiply_91 : decode cX9_multiply 91 = .ok (.iconst 0, 1) := by decide +kernel
theorem dX9_multiply_92 : decode cX9_multiply 92 = .ok (.ireturn, 1) := by decide +kernel
theorem dX9_multiply_93 : decode cX9_multiply 93 = .ok (.aload_n 0, 1) := by decide +kernel
theorem dX9_multiply_94 : decode cX9_multiply 94 = .ok (.getfield 60, 3) := by decide +kernel
theorem dX9_multiply_97 : decode cX9_multiply 97 = .ok (.aload_n 0, 1) := by decide +kernel
theorem dX9_multiply_98 : decode cX9_multiply 98 = .ok (.getfield 64, 3) := by decide +kernel
theorem dX9_multiply_101 : decode cX9_multiply 101 = .ok (.invokevirtual 123, 3) := by decide +kernel
theorem dX9_multiply_104 : decode cX9_multiply 104 = .ok (.iconst 1, 1) := by decide +kernel
theorem dX9_multiply_105 : decode cX9_multiply 105 = .ok (.ireturn, 1) := by decide +kernel
theorem dX9_oldestIdeal_0 : decode cX9_oldestIdeal 0 = .ok (.aload_n 0, 1) := by decide +kernel
theorem dX9_oldestIdeal_1 : decode cX9_oldestIdeal 1 = .ok (.getfield 47, 3) := by decide +kernel
theorem dX9_oldestIdeal_4 : decode cX9_oldestIdeal 4 = .ok (.aload_n 0, 1) := by decide +kernel
theorem dX9_oldestIdeal_5 : decode cX9_oldestIdeal 5 = .ok (.getfield 265, 3) := by decide +kernel
theorem dX9_oldestIdeal_8 : decode cX9_oldestIdeal 8 = .ok (.aaload, 1) := by decide +kernel
theorem dX9_oldestIdeal_9 : decode cX9_oldestIdeal 9 = .ok (.astore_n 1, 1) := by decide +kernel
theorem dX9_oldestIdeal_10 : decode cX9_oldestIdeal 10 = .ok (.aload_n 0, 1) := by decide +kernel
theorem dX9_oldestIdeal_11 : decode cX9_oldestIdeal 11 = .ok (.aload_n 0, 1) := by decide +kernel
theorem dX9_oldestIdeal_12 : decode cX9_oldestIdeal 12 = .ok (.getfield 265, 3) := by decide +kernel
theorem dX9_oldestIdeal_15 : decode cX9_oldestIdeal 15 = .ok (.iconst 1, 1) := by decide +kernel
theorem dX9_oldestIdeal_16 : decode cX9_oldestIdeal 16 = .ok (.iadd, 1) := by decide +kernel
theorem dX9_oldestIdeal_17 : decode cX9_oldestIdeal 17 = .ok (.iconst 4, 1) := by decide +kernel
theorem dX9_oldestIdeal_18 : decode cX9_oldestIdeal 18 = .ok (.if_icmp .ge 12, 3) := by decide +kernel
theorem dX9_oldestIdeal_21 : decode cX9_oldestIdeal 21 = .ok (.aload_n 0, 1) := by decide +kernel
theorem dX9_oldestIdeal_22 : decode cX9_oldestIdeal 22 = .ok (.getfield 265, 3) := by decide +kernel
theorem dX9_oldestIdeal_25 : decode cX9_oldestIdeal 25 = .ok (.iconst 1, 1) := by decide +kernel
theorem dX9_oldestIdeal_26 : decode cX9_oldestIdeal 26 = .ok (.iadd, 1) := by decide +kernel
theorem dX9_oldestIdeal_27 : decode cX9_oldestIdeal 27 = .ok (.goto 4, 3) := by decide +kernel
theorem dX9_oldestIdeal_30 : decode cX9_oldestIdeal 30 = .ok (.iconst 0, 1) := by decide +kernel
theorem dX9_oldestIdeal_31 : decode cX9_oldestIdeal 31 = .ok (.putfield 265, 3) := by decide +kernel
theorem dX9_oldestIdeal_34 : decode cX9_oldestIdeal 34 = .ok (.aload_n 1, 1) := by decide +kernel
theorem dX9_oldestIdeal_35 : decode cX9_oldestIdeal 35 = .ok (.iconst (-1), 1) := by decide +kernel
theorem dX9_oldestIdeal_36 : decode cX9_oldestIdeal 36 = .ok (.putfield 264, 3) := by decide +kernel
theorem dX9_oldestIdeal_39 : decode cX9_oldestIdeal 39 = .ok (.aload_n 1, 1) := by decide +kernel
theorem dX9_oldestIdeal_40 : decode cX9_oldestIdeal 40 = .ok (.areturn, 1) := by decide +kernel
theorem dX9_idealOf_0 : decode cX9_idealOf 0 = .ok (.aload_n 0, 1) := by decide +kernel
theorem dX9_idealOf_1 : decode cX9_idealOf 1 = .ok (.iload_n 1, 1) := by decide +kernel
theorem dX9_idealOf_2 : decode cX9_idealOf 2 = .ok (.invokevirtual 187, 3) := by decide +kernel
theorem dX9_idealOf_5 : decode cX9_idealOf 5 = .ok (.istore_n 2, 1) := by decide +kernel
theorem dX9_idealOf_6 : decode cX9_idealOf 6 = .ok (.aload_n 0, 1) := by decide +kernel
theorem dX9_idealOf_7 : decode cX9_idealOf 7 = .ok (.getfield 47, 3) := by decide +kernel
theorem dX9_idealOf_10 : decode cX9_idealOf 10 = .ok (.astore_n 3, 1) := by decide +kernel
theorem dX9_idealOf_11 : decode cX9_idealOf 11 = .ok (.aload_n 3, 1) := by decide +kernel
theorem dX9_idealOf_12 : decode cX9_idealOf 12 = .ok (.arraylength, 1) := by decide +kernel
theorem dX9_idealOf_13 : decode cX9_idealOf 13 = .ok (.istore 4, 2) := by decide +kernel
theorem dX9_idealOf_15 : decode cX9_idealOf 15 = .ok (.iconst 0, 1) := by decide +kernel
theorem dX9_idealOf_16 : decode cX9_idealOf 16 = .ok (.istore 5, 2) := by decide +kernel
theorem dX9_idealOf_18 : decode cX9_idealOf 18 = .ok (.iload 5, 2) := by decide +kernel
theorem dX9_idealOf_20 : decode cX9_idealOf 20 = .ok (.iload 4, 2) := by decide +kernel
theorem dX9_idealOf_22 : decode cX9_idealOf 22 = .ok (.if_icmp .ge 27, 3) := by decide +kernel
theorem dX9_idealOf_25 : decode cX9_idealOf 25 = .ok (.aload_n 3, 1) := by decide +kernel
theorem dX9_idealOf_26 : decode cX9_idealOf 26 = .ok (.iload 5, 2) := by decide +kernel
theorem dX9_idealOf_28 : decode cX9_idealOf 28 = .ok (.aaload, 1) := by decide +kernel
theorem dX9_idealOf_29 : decode cX9_idealOf 29 = .ok (.astore 6, 2) := by decide +kernel
theorem dX9_idealOf_31 : decode cX9_idealOf 31 = .ok (.aload 6, 2) := by decide +kernel
theorem dX9_idealOf_33 : decode cX9_idealOf 33 = .ok (.getfield 264, 3) := by decide +kernel
theorem dX9_idealOf_36 : decode cX9_idealOf 36 = .ok (.iload_n 2, 1) := by decide +kernel
theorem dX9_idealOf_37 : decode cX9_idealOf 37 = .ok (.if_icmp .ne 6, 3) := by decide +kernel
theorem dX9_idealOf_40 : decode cX9_idealOf 40 = .ok (.aload 6, 2) := by decide +kernel
theorem dX9_idealOf_42 : decode cX9_idealOf 42 = .ok (.areturn, 1) := by decide +kernel
theorem dX9_idealOf_43 : decode cX9_idealOf 43 = .ok (.iinc 5 1, 3) := by decide +kernel
theorem dX9_idealOf_46 : decode cX9_idealOf 46 = .ok (.goto (-28), 3) := by decide +kernel
theorem dX9_idealOf_49 : decode cX9_idealOf 49 = .ok (.aload_n 0, 1) := by decide +kernel
theorem dX9_idealOf_50 : decode cX9_idealOf 50 = .ok (.invokevirtual 236, 3) := by decide +kernel
theorem dX9_idealOf_53 : decode cX9_idealOf 53 = .ok (.astore_n 3, 1) := by decide +kernel
theorem dX9_idealOf_54 : decode cX9_idealOf 54 = .ok (.aload_n 3, 1) := by decide +kernel
theorem dX9_idealOf_55 : decode cX9_idealOf 55 = .ok (.aload_n 0, 1) := by decide +kernel
theorem dX9_idealOf_56 : decode cX9_idealOf 56 = .ok (.getfield 20, 3) := by decide +kernel
theorem dX9_idealOf_59 : decode cX9_idealOf 59 = .ok (.iload_n 2, 1) := by decide +kernel
theorem dX9_idealOf_60 : decode cX9_idealOf 60 = .ok (.aload_n 0, 1) := by decide +kernel
theorem dX9_idealOf_61 : decode cX9_idealOf 61 = .ok (.getfield 12, 3) := by decide +kernel
theorem dX9_idealOf_64 : decode cX9_idealOf 64 = .ok (.invokevirtual 240, 3) := by decide +kernel
theorem dX9_idealOf_67 : decode cX9_idealOf 67 = .ok (.aload_n 3, 1) := by decide +kernel
theorem dX9_idealOf_68 : decode cX9_idealOf 68 = .ok (.iload_n 2, 1) := by decide +kernel
theorem dX9_idealOf_69 : decode cX9_idealOf 69 = .ok (.putfield 264, 3) := by decide +kernel
theorem dX9_idealOf_72 : decode cX9_idealOf 72 = .ok (.aload_n 3, 1) := by decide +kernel
theorem dX9_idealOf_73 : decode cX9_idealOf 73 = .ok (.areturn, 1) := by decide +kernel
theorem dX9_tellMono_0 : decode cX9_tellMono 0 = .ok (.iload_n 1, 1) := by decide +kernel
theorem dX9_tellMono_1 : decode cX9_tellMono 1 = .ok (.iconst 3, 1) := by decide +kernel
theorem dX9_tellMono_2 : decode cX9_tellMono 2 = .ok (.if_icmp .ne 10, 3) := by decide +kernel
theorem dX9_tellMono_5 : decode cX9_tellMono 5 = .ok (.iload_n 0, 1) := by decide +kernel
theorem dX9_tellMono_6 : decode cX9_tellMono 6 = .ok (.invokestatic 272, 3) := by decide +kernel
theorem dX9_tellMono_9 : decode cX9_tellMono 9 = .ok (.goto 8, 3) := by decide +kernel
theorem dX9_tellMono_12 : decode cX9_tellMono 12 = .ok (.iload_n 0, 1) := by decide +kernel
theorem dX9_tellMono_13 : decode cX9_tellMono 13 = .ok (.iload_n 1, 1) := by decide +kernel
theorem dX9_tellMono_14 : decode cX9_tellMono 14 = .ok (.invokestatic 275, 3) := by decide +kernel
theorem dX9_tellMono_17 : decode cX9_tellMono 17 = .ok (.ireturn, 1) := by decide +kernel
end
section
/-! ===== THE WALK: values, shapes, cells ===== -/
abbrev PV : Type := (Int ⊕ Int) ⊕ (Nat ⊕ Nat)
abbrev vI (x : Int) : PV := Sum.inl (Sum.inl x)
abbrev vL (x : Int) : PV := Sum.inl (Sum.inr x)
abbrev vR (r : Nat) : PV := Sum.inr (Sum.inl r)
abbrev vO (k : Nat) : PV := Sum.inr (Sum.inr k)
abbrev vS : PV := Sum.inr (Sum.inr 0)
def InR (x : Int) : Prop := -2147483648 ≤ x ∧ x < 2147483648
def InL (x : Int) : Prop := -9223372036854775808 ≤ x ∧ x < 9223372036854775808
def w32 (x : Int) : Int := (Int32.ofInt x).toInt
def w64 (x : Int) : Int := (Int64.ofInt x).toInt
theorem InR_toInt (x : Int32) : InR x.toInt := ⟨x.le_toInt, x.toInt_lt⟩
theorem InL_toInt (x : Int64) : InL x.toInt := ⟨x.le_toInt, x.toInt_lt⟩
theorem InR.L {x : Int} (h : InR x) : InL x := by unfold InR at h; unfold InL; omega
theorem w32_id {x : Int} (h : -2147483648 ≤ x ∧ x < 2147483648) : w32 x = x := Int32.toInt_ofInt_of_le h.1 h.2
theorem w64_id {x : Int} (h : -9223372036854775808 ≤ x ∧ x < 9223372036854775808) : w64 x = x := Int64.toInt_ofInt_of_le h.1 h.2
theorem o32 {x : Int} (h : InR x) : (Int32.ofInt x).toInt = x := Int32.toInt_ofInt_of_le h.1 h.2
theorem o64 {x : Int} (h : InL x) : (Int64.ofInt x).toInt = x := Int64.toInt_ofInt_of_le h.1 h.2
theorem o32w (x : Int) : Int32.ofInt (w32 x) = Int32.ofInt x := Int32.ofInt_toInt _
theorem o64w (x : Int) : Int64.ofInt (w64 x) = Int64.ofInt x := Int64.ofInt_toInt _
def iand (x y : Int) : Int := (Int32.ofInt x &&& Int32.ofInt y).toInt
def ior (x y : Int) : Int := (Int32.ofInt x ||| Int32.ofInt y).toInt
def ixor (x y : Int) : Int := (Int32.ofInt x ^^^ Int32.ofInt y).toInt
def ishl (x y : Int) : Int := (Int32.ofInt x <<< (Int32.ofInt y &&& 31)).toInt
def ishr (x y : Int) : Int := (Int32.ofInt x >>> (Int32.ofInt y &&& 31)).toInt
def iushr (x y : Int) : Int := ((Int32.ofInt x).toUInt32 >>> ((Int32.ofInt y).toUInt32 &&& Int32.toUInt32 31)).toInt32.toInt
def irem (x y : Int) : Int := (Int32.ofInt x - Int32.ofInt x / Int32.ofInt y * Int32.ofInt y).toInt
def idiv (x y : Int) : Int := (Int32.ofInt x / Int32.ofInt y).toInt
def lrem (x y : Int) : Int := (Int64.ofInt x - Int64.ofInt x / Int64.ofInt y * Int64.ofInt y).toInt
def i2b (x : Int) : Int := (Int32.ofInt x).toInt8.toInt32.toInt
def lcmp (x y : Int) : Int := (lg_cmp (Int64.ofInt x) (Int64.ofInt y)).toInt
abbrev Gl : Type := Nat × Nat × Nat × (Nat → Int32) × va_G × List (ClassId × FieldType) × (Nat → Option Nat)
def gB (G : Gl) : Nat := G.1
def gb (G : Gl) : Nat := G.2.1
def gL (G : Gl) : Nat := G.2.2.1
def gX (G : Gl) : Nat → Int32 := G.2.2.2.1
def gD (G : Gl) : va_G := G.2.2.2.2.1
def gT (G : Gl) : List (ClassId × FieldType) := G.2.2.2.2.2.1
/-- what was there before: the script (0), the constants of text (1 .. 6), their bytes (7 .. 12), a formatter (13) -/
def gO (G : Gl) (k : Nat) : Option Nat := if k = 0 then some (gb G) else G.2.2.2.2.2.2 (k - 1)
def gA (G : Gl) (k : Nat) : Nat := (gO G k).getD 0
def mv (G : Gl) : PV → Value
  | .inl (.inl x) => .int (Int32.ofInt x)
  | .inl (.inr x) => .long (Int64.ofInt x)
  | .inr (.inr k) => va_rf (gO G k)
  | .inr (.inl 0) => .null
  | .inr (.inl (k + 1)) => .ref (gB G + k)
theorem mv_old (G : Gl) (k : Nat) : mv G (vO k) = .null ∨ ∃ a, mv G (vO k) = .ref a := by
  show va_rf (gO G k) = .null ∨ ∃ a, va_rf (gO G k) = .ref a
  cases gO G k with
  | none => exact Or.inl rfl
  | some a => exact Or.inr ⟨a, rfl⟩
theorem mv_ref (G : Gl) {r : Nat} (h : 1 ≤ r) : mv G (vR r) = .ref (gB G + (r - 1)) := by
  obtain ⟨k, rfl⟩ : ∃ k, r = k + 1 := ⟨r - 1, by omega⟩
  rfl
def vok : PV → Prop
  | .inl (.inl x) => InR x
  | .inl (.inr x) => InL x
  | .inr _ => True
def pcat : PV → Nat
  | .inl (.inr _) => 2
  | _ => 1
theorem mv_cat (G : Gl) (v : PV) : (mv G v).category = pcat v := by
  match v with
  | .inl (.inl _) => rfl
  | .inl (.inr _) => rfl
  | .inr (.inr k) => show (va_rf (gO G k)).category = 1; cases gO G k <;> rfl
  | .inr (.inl 0) => rfl
  | .inr (.inl (_ + 1)) => rfl
-- shapes: the next cell, the slots used, the kind of each cell (ci + 1: of class ci; 21 ..: arrays), its length
abbrev Sh : Type := Nat × Nat × (Nat → Nat) × (Nat → Nat)
def sN (S : Sh) : Nat := S.1
def sU (S : Sh) : Nat := S.2.1
def sT (S : Sh) : Nat → Nat := S.2.2.1
def sL (S : Sh) : Nat → Nat := S.2.2.2
abbrev MI : Type := Nat → Nat → Int
abbrev MR : Type := Nat → Nat → Nat
def clTy (ci : Nat) : Nat → FieldType := match ci with
  | 0 => tyX0 | 1 => tyX1 | 2 => tyX2 | 3 => tyX4 | 4 => tyX5 | 5 => tyX6 | 6 => tyX7 | 7 => tyX8 | 8 => tyX9 | 9 => tyJ0 | _ => tyJ4
def clN (ci : Nat) : Nat := match ci with
  | 0 => 9 | 1 => 3 | 2 => 4 | 3 => 1 | 4 => 3 | 5 => 7 | 6 => 8 | 7 => 2 | 8 => 11 | 9 => 4 | _ => 4
def atyL : List FieldType := [.int, .byte, .int, .object RX5, .object RX1, .object RX2, .array .int]
def rvo (G : Gl) : Nat → Option Nat
  | 0 => none
  | k + 1 => some (gB G + k)
theorem rvo_rf (G : Gl) (r : Nat) : va_rf (rvo G r) = mv G (vR r) := by cases r <;> rfl
def fval (G : Gl) (ty : FieldType) (x : Int) (r : Nat) : Value := match ty with
  | .long => .long (Int64.ofInt x)
  | .object _ => mv G (vR r)
  | .array _ => mv G (vR r)
  | _ => .int (Int32.ofInt x)
def irng (ty : FieldType) (x : Int) : Prop := match ty with
  | .long => InL x
  | .byte => -128 ≤ x ∧ x < 128
  | .boolean => x = 0 ∨ x = 1
  | _ => InR x
def ety (t j : Nat) : FieldType := if t ≤ 20 then clTy (t - 1) j else atyL.getD (t - 21) .int
def cellE (G : Gl) (t len : Nat) (x : Nat → Int) (r : Nat → Nat) : va_E :=
  if t ≤ 20 then .inr (t - 1, (List.range (clN (t - 1))).map (fun j => fval G (clTy (t - 1) j) (x j) (r j)))
  else .inl (((gT G).getD (t - 21) (0, .int)).1, len, if t ≤ 23 then .inl (fun j => Int32.ofInt (x j)) else .inr (.inr (.inr (.inr (fun j => rvo G (r j))))))
def wsOf (G : Gl) (S : Sh) (I : MI) (R : MR) : va_W := (List.range (sN S - 1)).map (fun k => (gB G + k, cellE G (sT S (k + 1)) (sL S (k + 1)) (I (k + 1)) (R (k + 1))))
theorem wsOf_len (G : Gl) (S : Sh) (I : MI) (R : MR) : (wsOf G S I R).length = sN S - 1 := by simp [wsOf]
theorem wsOf_get (G : Gl) {S : Sh} (I : MI) (R : MR) {a : Nat} (h1 : 1 ≤ a) (h2 : a < sN S) : (wsOf G S I R)[a - 1]? = some (gB G + (a - 1), cellE G (sT S a) (sL S a) (I a) (R a)) := by
  obtain ⟨k, rfl⟩ : ∃ k, a = k + 1 := ⟨a - 1, by omega⟩
  unfold wsOf
  rw [Nat.add_sub_cancel, List.getElem?_map, List.getElem?_range (by omega)]
  rfl
theorem wsOf_set (G : Gl) {S : Sh} {I I' : MI} {R R' : MR} {a : Nat} (h1 : 1 ≤ a) (h2 : a < sN S) (hI : ∀ k, k ≠ a → I' k = I k) (hR : ∀ k, k ≠ a → R' k = R k) {e : va_E} (he : e = cellE G (sT S a) (sL S a) (I' a) (R' a)) : (wsOf G S I R).set (a - 1) (gB G + (a - 1), e) = wsOf G S I' R' := by
  apply List.ext_getElem?
  intro k
  by_cases hk : k = a - 1
  · subst hk
    rw [List.getElem?_set_self (by rw [wsOf_len]; omega), wsOf_get G I' R' h1 h2, he]
  · rw [List.getElem?_set_ne (Ne.symm hk)]
    by_cases hl : k < sN S - 1
    · rw [show k = (k + 1) - 1 by omega, wsOf_get G I R (by omega) (by omega), wsOf_get G I' R' (by omega) (by omega), hI _ (by omega), hR _ (by omega)]
    · rw [List.getElem?_eq_none (by rw [wsOf_len]; omega), List.getElem?_eq_none (by rw [wsOf_len]; omega)]
theorem wsOf_push (G : Gl) {S S' : Sh} {I I' : MI} {R R' : MR} (h0 : 1 ≤ sN S) (hn : sN S' = sN S + 1) (hT : ∀ k, k < sN S → sT S' k = sT S k) (hL : ∀ k, k < sN S → sL S' k = sL S k) (hI : ∀ k, k < sN S → I' k = I k) (hR : ∀ k, k < sN S → R' k = R k) :
    wsOf G S' I' R' = wsOf G S I R ++ [(gB G + (sN S - 1), cellE G (sT S' (sN S)) (sL S' (sN S)) (I' (sN S)) (R' (sN S)))] := by
  unfold wsOf
  rw [hn, show sN S + 1 - 1 = (sN S - 1) + 1 by omega, List.range_succ, List.map_append]
  congr 1
  · apply List.map_congr_left
    intro k hk
    have hk := List.mem_range.mp hk
    rw [hT _ (by omega), hL _ (by omega), hI _ (by omega), hR _ (by omega)]
  · simp only [List.map_cons, List.map_nil, show sN S - 1 + 1 = sN S by omega]
theorem wsOf_D (G : Gl) (S : Sh) (I : MI) (R : MR) : va_D (fun q => gB G ≤ q) (wsOf G S I R) := by
  have h : ∀ (i : Nat) (p : Nat × va_E), (wsOf G S I R)[i]? = some p → p.1 = gB G + i := by
    intro i p hp
    have hl := (List.getElem?_eq_some_iff.mp hp).1
    rw [wsOf_len] at hl
    have := wsOf_get G (S := S) I R (a := i + 1) (by omega) (by omega)
    rw [show i + 1 - 1 = i by omega, hp] at this
    rw [Option.some.inj this]
  refine ⟨fun i j p q hp hq e => ?_, fun k q hq => ?_⟩
  · have h1 := h i p hp
    have h2 := h j q hq
    omega
  · have h1 := h k q hq
    show gB G ≤ q.1
    omega
def okS (S : Sh) : Prop := 1 ≤ sN S ∧ ∀ a, sT S a ≠ 0 → 1 ≤ a ∧ a < sN S ∧ (sT S a ≤ 11 ∨ (21 ≤ sT S a ∧ sT S a ≤ 27)) ∧ sL S a < 2147483648
def okI (S : Sh) (I : MI) : Prop := ∀ a j, irng (ety (sT S a) j) (I a j)
def MRel (G : Gl) (S : Sh) (I : MI) (R : MR) (Hm : Heap) : Prop := va_P (gD G) vwCl (wsOf G S I R) Hm ∧ Hm.size = gB G + (sN S - 1)
-- a method: its class, name, code, locals, answer, rank (its calls have lesser ones)
abbrev MB : Type := String × MethodName × ByteArray × Nat × Option FieldType × Nat × Nat
abbrev mO (μ : MB) : String := μ.1
abbrev mY (μ : MB) : MethodName := μ.2.1
abbrev mC (μ : MB) : ByteArray := μ.2.2.1
abbrev mL (μ : MB) : Nat := μ.2.2.2.1
abbrev mR (μ : MB) : Option FieldType := μ.2.2.2.2.1
abbrev mK (μ : MB) : Nat := μ.2.2.2.2.2.1
abbrev mW (μ : MB) : Nat := μ.2.2.2.2.2.2
/-- the tables' words that hold through every call; those of the nest, of arrays over references -/
def lw_xs : List Cond := [yJ5_newCapacity_0f7a4, yJ5_inflateIfNeededFor_a7421, yJ5_ensureCapacityInternal_d00df, yJ5_putStringAt_47b60].map (fun y => Cond.selects RJ4 y y)
def lw_t2 : List Cond := lw_tbl.filter goodWord ++ lw_xs
theorem lw_xg : ∀ w ∈ lw_xs, goodWord w = true := by decide +kernel
theorem lw_gd {w : Cond} (h : w ∈ lw_t2) : goodWord w = true := (List.mem_append.mp h).elim (fun h => (List.mem_filter.mp h).2) (lw_xg w)
theorem lw_ex {w : Cond} (h : w ∈ lw_xs) : w ∈ lw_t2 := List.mem_append_right _ h
theorem lw_in {w : Cond} (i : Nat) (h : lw_tbl[i]? = some w) (hg : goodWord w = true) : w ∈ lw_t2 := List.mem_append_left _ (List.mem_filter.mpr ⟨List.mem_of_getElem? h, hg⟩)
def isNest : Cond → Bool
  | .methodLinkNest .. => true
  | _ => false
def lw_n : List Cond := lw_tbl.filter isNest
theorem lw_nin {w : Cond} (i : Nat) (h : lw_tbl[i]? = some w) (hg : isNest w = true) : w ∈ lw_n := List.mem_filter.mpr ⟨List.mem_of_getElem? h, hg⟩
def va_A2 (U : State) : Prop := (Cond.arrayOver (.array .int)).before #[] U = true
def ExA (U : State) : Prop := (∀ w ∈ lw_n, va_Nw w U) ∧ va_AO RX5 U ∧ va_AO RX1 U ∧ va_AO RX2 U ∧ va_A2 U ∧ va_Nw (.castable "[B" "java/lang/Cloneable") U
/-- the constants of text: "", "+", "-", "x^", "y^", "z^" -/
def litLen : List Nat := [0, 1, 1, 2, 2, 2]
def litByt : List (List Int32) := [[], [43], [45], [120, 94], [121, 94], [122, 94]]
def litIx : List Nat := [56, 58, 60, 68, 70, 72]
def litTx : List String := ["", "+", "-", "x^", "y^", "z^"]
/-- what stands unchanged of what was there before -/
def va_Old (G : Gl) (U : State) (H : Heap) : Prop :=
  vk_S 6 litLen litByt (fun i => gA G (i + 1)) (fun i => gA G (i + 7)) (fun q => gB G ≤ q) U H ∧ (∀ i, i < 6 → vk_R RL (litIx.getD i 0) (litTx.getD i "") (gA G (i + 1)) U) ∧
  va_Z "java/lang/String" "COMPACT_STRINGS" "Z" (.int 1) (fun q => gB G ≤ q) U H ∧ va_Z "jdk/internal/util/Preconditions" "SIOOBE_FORMATTER" "Ljava/util/function/BiFunction;" (mv G (vO 13)) (fun q => gB G ≤ q) U H ∧ va_Z "java/lang/Integer" "DigitOnes" "[B" (.ref (gA G 14)) (fun q => gB G ≤ q) U H ∧ va_T .byte (gA G 14) 100 (fun j => .int (Int32.ofNat (48 + j % 10))) (fun q => gB G ≤ q) U H ∧
  (∀ k, k < 14 → k ≠ 12 → ∃ a, gO G (k + 1) = some a)
theorem va_Old.kept {G : Gl} {U : State} {H H1 : Heap} (h : va_Old G U H) (hq : ∀ a : Nat, a < H.size → ¬ gB G ≤ a → H1[a]? = H[a]?) : va_Old G U H1 :=
  ⟨h.1.kept hq, h.2.1, h.2.2.1.kept hq, h.2.2.2.1.kept hq, h.2.2.2.2.1.kept hq, h.2.2.2.2.2.1.kept hq, h.2.2.2.2.2.2⟩
theorem va_Old.warm {G : Gl} {s U : State} {H : Heap} (hW : s.WarmedH U.vm) (h : va_Old G s H) : va_Old G U H :=
  ⟨h.1.moved hW.alike, fun i hi => (h.2.1 i hi).warm hW, h.2.2.1.moved hW.alike, h.2.2.2.1.moved hW.alike, h.2.2.2.2.1.moved hW.alike, h.2.2.2.2.2.1.moved hW.alike, h.2.2.2.2.2.2⟩
theorem va_Old.same {G : Gl} {u U : State} {H : Heap} (hv : u.vm = U.vm) (h : va_Old G u H) : va_Old G U H := by
  have hal : u.vm.Alike U.vm := by rw [hv]; exact Vm.Alike.refl _
  exact ⟨h.1.moved hal, fun i hi => vk_R.same hv.symm (h.2.1 i hi), h.2.2.1.moved hal, h.2.2.2.1.moved hal, h.2.2.2.2.1.moved hal, h.2.2.2.2.2.1.moved hal, h.2.2.2.2.2.2⟩
def ExW (G : Gl) (U : State) (H : Heap) : Prop := ExA U ∧ va_Old G U H
theorem va_A2.moved {u U : State} (hvm : u.vm.Alike U.vm) (h : va_A2 u) : va_A2 U := Jvm.Stand.arrayOver_alikeB hvm h
theorem ExA.warm {s U : State} (hW : s.WarmedH U.vm) (h : ExA s) : ExA U := by
  refine ⟨fun w hw => ?_, h.2.1.moved hW.alike, h.2.2.1.moved hW.alike, h.2.2.2.1.moved hW.alike, h.2.2.2.2.1.moved hW.alike, va_Nw.warmC hW h.2.2.2.2.2⟩
  have h1 := h.1 w hw
  have h2 := (List.mem_filter.mp hw).2
  cases w with
  | methodLinkNest a i x hh => exact va_Nw.warmM hW h1
  | _ => cases h2
theorem ExW.warm {G : Gl} {s U : State} {H : Heap} (hW : s.WarmedH U.vm) (h : ExW G s H) : ExW G U H := ⟨h.1.warm hW, h.2.warm hW⟩
def Cx (G : Gl) (μ : MB) (p : Program) (Rm : Room) (s : State) (m : MethodId) (args : Array Value) (meth : Method) (c : Code) : Prop :=
  p.tables.exec = Jvm.exec ∧ c.code = mC μ ∧ c.maxLocals = mL μ ∧ s.vm.findClass (mO μ) = some m.cls ∧ (∀ w ∈ lw_t2, w.before args s = true) ∧ meth.sig.returnType = mR μ ∧ meth.locks = false ∧ ((mY μ).name = "<init>" → meth.name = "<init>") ∧ va_K (gD G) vwCl (gT G) s ∧ (gT G).map Prod.snd = atyL ∧
  mK μ ≤ Rm.frames ∧ mW μ ≤ Rm.locals ∧ gB G ≤ s.heap.size ∧ gb G < gB G ∧ va_X (gb G) (gL G) (gX G) s s.heap ∧ gL G ≤ 260 ∧ ExW G s s.heap
abbrev Lc : Type := List (Nat × PV)
def mls (G : Gl) (ls : Lc) : List (Nat × Value) := ls.map (fun q => (q.1, mv G q.2))
def retst (G : Gl) : PV → List Value
  | .inr (.inr 0) => []
  | v => [mv G v]
def IsRet (μ : MB) (pc : Nat) (v : PV) : Prop :=
  (∃ x, v = vI x ∧ decode (mC μ) pc = .ok (.ireturn, 1) ∧ (mR μ = some .int ∨ (mR μ = some .boolean ∧ (x = 0 ∨ x = 1)) ∨ (mR μ = some .byte ∧ -128 ≤ x ∧ x < 128) ∨ (mR μ = some .char ∧ 0 ≤ x ∧ x < 65536))) ∨
  (∃ r, v = vR r ∧ decode (mC μ) pc = .ok (.areturn, 1) ∧ ∃ rt, mR μ = some rt ∧ ((∃ n, rt = .object n) ∨ ∃ t, rt = .array t)) ∨
  (v = vS ∧ decode (mC μ) pc = .ok (.return_, 1) ∧ mR μ = none)
/-- the frame's locals and the heap are these -/
def Fr (G : Gl) (μ : MB) (ls : Lc) (S : Sh) (I : MI) (R : MR) (s : State) (Hm : Heap) (locs : List Loc) (lsM : Array Slot) : Prop :=
  lv_has lsM (mL μ) (mls G ls) ∧ MRel G S I R Hm ∧ va_S (fun q => gB G ≤ q) s.heap Hm locs
/-- from this frame the machine comes to a return instruction with this answer and this heap -/
def Run (G : Gl) (μ : MB) (pc : Nat) (ls : Lc) (st : List PV) (S : Sh) (I : MI) (R : MR) (S' : Sh) (I' : MI) (R' : MR) (v : PV) : Prop :=
  sN S ≤ sN S' ∧ sU S ≤ sU S' ∧ ∀ (p : Program) (l : Launch) (e : Env) (Rm : Room) (s : State) (m : MethodId) (args : Array Value) (below : List Frame) (meth : Method) (c : Code) (Hm : Heap) (locs : List Loc) (cells slots : Nat) (lsM : Array Slot) (Z : State → Prop),
    Cx G μ p Rm s m args meth c → cells + (sN S' - sN S) ≤ Rm.cells → slots + (sU S' - sU S) ≤ Rm.slots → Fr G μ ls S I R s Hm locs lsM →
    (∀ (Hm' : Heap) (locs' : List Loc) (pc' : Nat) (ls' : Array Slot), MRel G S' I' R' Hm' → va_S (fun q => gB G ≤ q) s.heap Hm' locs' → IsRet μ pc' v →
      W p l e Rm s m args below meth c Hm' locs' (cells + (sN S' - sN S)) (slots + (sU S' - sU S)) Z (F0 m pc' ls' (retst G v))) →
    W p l e Rm s m args below meth c Hm locs cells slots Z (F0 m pc lsM (st.map (mv G)))
abbrev PQ : Type := Sh → MI → MR → PV → Prop
def okL (ls : Lc) : Prop := ∀ q ∈ ls, vok q.2
def okV (st : List PV) : Prop := ∀ v ∈ st, vok v
def E (G : Gl) (μ : MB) (pc : Nat) (ls : Lc) (st : List PV) (S : Sh) (I : MI) (R : MR) (Q : PQ) : Prop :=
  okS S → okI S I → okL ls → okV st → ∃ (S' : Sh) (I' : MI) (R' : MR) (v : PV), Q S' I' R' v ∧ okS S' ∧ okI S' I' ∧ vok v ∧ Run G μ pc ls st S I R S' I' R' v
theorem E.mono {G : Gl} {μ : MB} {pc : Nat} {ls : Lc} {st : List PV} {S : Sh} {I : MI} {R : MR} {Q Q' : PQ} (h : E G μ pc ls st S I R Q) (hq : ∀ S' I' R' v, Q S' I' R' v → Q' S' I' R' v) : E G μ pc ls st S I R Q' := by
  intro a b c d
  obtain ⟨S', I', R', v, h1, h2⟩ := h a b c d
  exact ⟨S', I', R', v, hq _ _ _ _ h1, h2⟩
theorem E.ok {G : Gl} {μ : MB} {pc : Nat} {ls : Lc} {st : List PV} {S : Sh} {I : MI} {R : MR} {Q : PQ} (h : okS S → okI S I → okL ls → okV st → E G μ pc ls st S I R Q) : E G μ pc ls st S I R Q := fun a b c d => h a b c d a b c d
section GO
variable {G : Gl} {μ : MB} {pc pc2 : Nat} {ls ls2 : Lc} {st st2 : List PV} {S S2 : Sh} {I I2 : MI} {R R2 : MR} {Q : PQ}
/-- a step that may write and make cells -/
theorem e_step (hn : sN S ≤ sN S2) (hu : sU S ≤ sU S2) (hok : okS S → okI S I → okL ls → okV st → okS S2 ∧ okI S2 I2 ∧ okL ls2 ∧ okV st2)
    (h : ∀ (p : Program) (l : Launch) (e : Env) (Rm : Room) (s : State) (m : MethodId) (args : Array Value) (below : List Frame) (meth : Method) (c : Code) (Hm : Heap) (locs : List Loc) (cells slots : Nat) (lsM : Array Slot) (Z : State → Prop),
      okS S → okI S I → okL ls → okV st → Cx G μ p Rm s m args meth c → cells + (sN S2 - sN S) ≤ Rm.cells → slots + (sU S2 - sU S) ≤ Rm.slots → Fr G μ ls S I R s Hm locs lsM →
      (∀ (Hm' : Heap) (locs' : List Loc) (lsM' : Array Slot), Fr G μ ls2 S2 I2 R2 s Hm' locs' lsM' → W p l e Rm s m args below meth c Hm' locs' (cells + (sN S2 - sN S)) (slots + (sU S2 - sU S)) Z (F0 m pc2 lsM' (st2.map (mv G)))) →
      W p l e Rm s m args below meth c Hm locs cells slots Z (F0 m pc lsM (st.map (mv G))))
    (k : E G μ pc2 ls2 st2 S2 I2 R2 Q) : E G μ pc ls st S I R Q := by
  intro o1 o2 o3 o4
  obtain ⟨n1, n2, n3, n4⟩ := hok o1 o2 o3 o4
  obtain ⟨S', I', R', v, hq, r1, r2, r3, h1, h2, hk⟩ := k n1 n2 n3 n4
  refine ⟨S', I', R', v, hq, r1, r2, r3, Nat.le_trans hn h1, Nat.le_trans hu h2, ?_⟩
  intro p l e Rm s m args below meth c Hm locs cells slots lsM Z hC hc hs hF kk
  refine h p l e Rm s m args below meth c Hm locs cells slots lsM Z o1 o2 o3 o4 hC (by omega) (by omega) hF ?_
  intro Hm' locs' lsM' hF'
  refine hk p l e Rm s m args below meth c Hm' locs' _ _ lsM' Z hC (by omega) (by omega) hF' ?_
  intro Hm'' locs'' pc' ls' hM hS hr
  rw [show cells + (sN S2 - sN S) + (sN S' - sN S2) = cells + (sN S' - sN S) by omega, show slots + (sU S2 - sU S) + (sU S' - sU S2) = slots + (sU S' - sU S) by omega]
  exact kk Hm'' locs'' pc' ls' hM hS hr
/-- a step that leaves the heap alone, and the locals -/
theorem e_go (hv : okI S I → okL ls → okV st → okV st2)
    (h : ∀ (p : Program) (l : Launch) (e : Env) (Rm : Room) (s : State) (m : MethodId) (args : Array Value) (below : List Frame) (meth : Method) (c : Code) (Hm : Heap) (locs : List Loc) (cells slots : Nat) (lsM : Array Slot) (Z : State → Prop),
      okS S → okI S I → okL ls → okV st → Cx G μ p Rm s m args meth c → p.tables.exec = Jvm.exec → c.code = mC μ → Fr G μ ls S I R s Hm locs lsM → 
      W p l e Rm s m args below meth c Hm locs cells slots Z (F0 m pc2 lsM (st2.map (mv G))) →
      W p l e Rm s m args below meth c Hm locs cells slots Z (F0 m pc lsM (st.map (mv G))))
    (k : E G μ pc2 ls st2 S I R Q) : E G μ pc ls st S I R Q := by
  refine e_step (Nat.le_refl _) (Nat.le_refl _) (fun a b c d => ⟨a, b, c, hv b c d⟩) ?_ k
  intro p l e Rm s m args below meth c Hm locs cells slots lsM Z o1 o2 o3 o4 hC hc hs hF kk
  refine h p l e Rm s m args below meth c Hm locs cells slots lsM Z o1 o2 o3 o4 hC hC.1 hC.2.1 hF ?_
  have := kk Hm locs lsM hF
  simpa using this
/-- a step that writes a local -/
theorem e_gol (hv : okL ls → okV st → okL ls2 ∧ okV st2)
    (h : ∀ (p : Program) (l : Launch) (e : Env) (Rm : Room) (s : State) (m : MethodId) (args : Array Value) (below : List Frame) (meth : Method) (c : Code) (Hm : Heap) (locs : List Loc) (cells slots : Nat) (lsM : Array Slot) (Z : State → Prop),
      okL ls → okV st → p.tables.exec = Jvm.exec → c.code = mC μ → lv_has lsM (mL μ) (mls G ls) → 
      (∀ lsM' : Array Slot, lv_has lsM' (mL μ) (mls G ls2) → W p l e Rm s m args below meth c Hm locs cells slots Z (F0 m pc2 lsM' (st2.map (mv G)))) →
      W p l e Rm s m args below meth c Hm locs cells slots Z (F0 m pc lsM (st.map (mv G))))
    (k : E G μ pc2 ls2 st2 S I R Q) : E G μ pc ls st S I R Q := by
  refine e_step (Nat.le_refl _) (Nat.le_refl _) (fun a b c d => ⟨a, b, (hv c d).1, (hv c d).2⟩) ?_ k
  intro p l e Rm s m args below meth c Hm locs cells slots lsM Z o1 o2 o3 o4 hC hc hs hF kk
  refine h p l e Rm s m args below meth c Hm locs cells slots lsM Z o3 o4 hC.1 hC.2.1 hF.1 ?_
  intro lsM' hl
  have := kk Hm locs lsM' ⟨hl, hF.2⟩
  simpa using this
theorem vok_cons {v : PV} {st : List PV} (h : vok v) (hs : okV st) : okV (v :: st) := List.forall_mem_cons.mpr ⟨h, hs⟩
theorem vok_tl {v : PV} {st : List PV} (hs : okV (v :: st)) : okV st := (List.forall_mem_cons.mp hs).2
theorem vok_hd {v : PV} {st : List PV} (hs : okV (v :: st)) : vok v := (List.forall_mem_cons.mp hs).1
theorem lok_cons {q : Nat × PV} {ls : Lc} (h : vok q.2) (hs : okL ls) : okL (q :: ls) := List.forall_mem_cons.mpr ⟨h, hs⟩
theorem lok_at (h : okL ls) (k : Nat) {i : Nat} {v : PV} (hk : ls[k]? = some (i, v)) : vok v := h _ (List.mem_of_getElem? hk)
-- constants
theorem e_iconst {n : Int} (hd : decode (mC μ) pc = .ok (.iconst n, 1)) (hn : InR n) (k : E G μ (pc + 1) ls (vI n :: st) S I R Q) : E G μ pc ls st S I R Q :=
  e_go (fun _ _ h => vok_cons (v := vI n) hn h) (fun p l e Rm s m args below meth c Hm locs cells slots lsM Z _ _ _ _ hC hx hb hF kk => lv_iconst hx hb hd rfl kk) k
theorem e_bipush {n x : Int} (hd : decode (mC μ) pc = .ok (.bipush n, 2)) (hn : (Int8.ofInt n).toInt32 = Int32.ofInt x ∧ InR x) (k : E G μ (pc + 2) ls (vI x :: st) S I R Q) : E G μ pc ls st S I R Q :=
  e_go (fun _ _ h => vok_cons (v := vI x) hn.2 h) (fun p l e Rm s m args below meth c Hm locs cells slots lsM Z _ _ _ _ hC hx hb hF kk => lv_bipush hx hb hd hn.1 kk) k
theorem e_sipush {n x : Int} (hd : decode (mC μ) pc = .ok (.sipush n, 3)) (hn : (Int16.ofInt n).toInt32 = Int32.ofInt x ∧ InR x) (k : E G μ (pc + 3) ls (vI x :: st) S I R Q) : E G μ pc ls st S I R Q :=
  e_go (fun _ _ h => vok_cons (v := vI x) hn.2 h) (fun p l e Rm s m args below meth c Hm locs cells slots lsM Z _ _ _ _ hC hx hb hF kk => lv_sipush hx hb hd hn.1 kk) k
theorem e_ldc {x : Int} {index : Nat} (hd : decode (mC μ) pc = .ok (.ldc index, 2)) (hw : Jvm.Cond.constant (mO μ) index (Int32.ofInt x) ∈ lw_t2) (hn : InR x) (k : E G μ (pc + 2) ls (vI x :: st) S I R Q) : E G μ pc ls st S I R Q :=
  e_go (fun _ _ h => vok_cons (v := vI x) hn h) (fun p l e Rm s m args below meth c Hm locs cells slots lsM Z _ _ _ _ hC hx hb hF kk => lv_ldc hx hb hC.2.2.2.1 (hC.2.2.2.2.1 _ hw) hd kk) k
theorem e_ldc2 {x : Int} {index : Nat} (hd : decode (mC μ) pc = .ok (.ldc2_w index, 3)) (hw : Jvm.Cond.constantLong (mO μ) index (Int64.ofInt x) ∈ lw_t2) (hn : InL x) (k : E G μ (pc + 3) ls (vL x :: st) S I R Q) : E G μ pc ls st S I R Q :=
  e_go (fun _ _ h => vok_cons (v := vL x) hn h) (fun p l e Rm s m args below meth c Hm locs cells slots lsM Z _ _ _ _ hC hx hb hF kk => lv_ldc2 hx hb hC.2.2.2.1 (hC.2.2.2.2.1 _ hw) hd kk) k
theorem e_lconst {n : Fin 2} {x : Int} (hd : decode (mC μ) pc = .ok (.lconst n, 1)) (hn : Int64.ofNat (n : Nat) = Int64.ofInt x ∧ InL x) (k : E G μ (pc + 1) ls (vL x :: st) S I R Q) : E G μ pc ls st S I R Q :=
  e_go (fun _ _ h => vok_cons (v := vL x) hn.2 h) (fun p l e Rm s m args below meth c Hm locs cells slots lsM Z _ _ _ _ hC hx hb hF kk => lv_lconst hx hb hd hn.1 kk) k
theorem e_null (hd : decode (mC μ) pc = .ok (.aconst_null, 1)) (k : E G μ (pc + 1) ls (vR 0 :: st) S I R Q) : E G μ pc ls st S I R Q :=
  e_go (fun _ _ h => vok_cons (v := vR 0) trivial h) (fun p l e Rm s m args below meth c Hm locs cells slots lsM Z _ _ _ _ hC hx hb hF kk => lv_null hx hb hd kk) k
-- loads
theorem fr_at {lsM : Array Slot} {n : Nat} (h : lv_has lsM n (mls G ls)) (k : Nat) {i : Nat} {v : PV} (hk : ls[k]? = some (i, v)) : lsM[i]? = some (.val (mv G v)) :=
  lv_at h k (v := mv G v) (by simp [mls, hk])
theorem e_iload_n {j : Fin 4} {x : Int} (q : Nat) (hd : decode (mC μ) pc = .ok (.iload_n j, 1)) (hq : ls[q]? = some ((j : Nat), vI x)) (k : E G μ (pc + 1) ls (vI x :: st) S I R Q) : E G μ pc ls st S I R Q :=
  e_go (fun _ b h => vok_cons (lok_at b q hq) h) (fun p l e Rm s m args below meth c Hm locs cells slots lsM Z _ _ _ _ hC hx hb hF kk => lv_iload_n hx hb hd rfl (fr_at hF.1 q hq) kk) k
theorem e_iload {i : Nat} {x : Int} (q : Nat) (hd : decode (mC μ) pc = .ok (.iload i, 2)) (hq : ls[q]? = some (i, vI x)) (k : E G μ (pc + 2) ls (vI x :: st) S I R Q) : E G μ pc ls st S I R Q :=
  e_go (fun _ b h => vok_cons (lok_at b q hq) h) (fun p l e Rm s m args below meth c Hm locs cells slots lsM Z _ _ _ _ hC hx hb hF kk => lv_iload hx hb hd (fr_at hF.1 q hq) kk) k
theorem e_lload_n {j : Fin 4} {x : Int} (q : Nat) (hd : decode (mC μ) pc = .ok (.lload_n j, 1)) (hq : ls[q]? = some ((j : Nat), vL x)) (k : E G μ (pc + 1) ls (vL x :: st) S I R Q) : E G μ pc ls st S I R Q :=
  e_go (fun _ b h => vok_cons (lok_at b q hq) h) (fun p l e Rm s m args below meth c Hm locs cells slots lsM Z _ _ _ _ hC hx hb hF kk => lv_lload_n hx hb hd rfl (fr_at hF.1 q hq) kk) k
theorem e_lload {i : Nat} {x : Int} (q : Nat) (hd : decode (mC μ) pc = .ok (.lload i, 2)) (hq : ls[q]? = some (i, vL x)) (k : E G μ (pc + 2) ls (vL x :: st) S I R Q) : E G μ pc ls st S I R Q :=
  e_go (fun _ b h => vok_cons (lok_at b q hq) h) (fun p l e Rm s m args below meth c Hm locs cells slots lsM Z _ _ _ _ hC hx hb hF kk => lv_lload hx hb hd (fr_at hF.1 q hq) kk) k
theorem e_aload_n {j : Fin 4} {r : Nat ⊕ Nat} (q : Nat) (hd : decode (mC μ) pc = .ok (.aload_n j, 1)) (hq : ls[q]? = some ((j : Nat), .inr r)) (k : E G μ (pc + 1) ls (.inr r :: st) S I R Q) : E G μ pc ls st S I R Q := by
  refine e_go (fun _ b h => vok_cons (lok_at b q hq) h) (fun p l e Rm s m args below meth c Hm locs cells slots lsM Z _ _ _ _ hC hx hb hF kk => ?_) k
  have hl := fr_at hF.1 q hq
  match r, hl, kk with
  | .inr k, hl, kk =>
    rcases mv_old G k with e | ⟨a, e⟩
    · rw [List.map_cons, e] at kk
      rw [e] at hl
      exact lv_aload_nN hx hb hd rfl hl kk
    · rw [List.map_cons, e] at kk
      rw [e] at hl
      exact lv_aload_n hx hb hd rfl hl kk
  | .inl 0, hl, kk => exact lv_aload_nN hx hb hd rfl hl kk
  | .inl (_ + 1), hl, kk => exact lv_aload_n hx hb hd rfl hl kk
theorem e_aload {i : Nat} {r : Nat ⊕ Nat} (q : Nat) (hd : decode (mC μ) pc = .ok (.aload i, 2)) (hq : ls[q]? = some (i, .inr r)) (k : E G μ (pc + 2) ls (.inr r :: st) S I R Q) : E G μ pc ls st S I R Q := by
  refine e_go (fun _ b h => vok_cons (lok_at b q hq) h) (fun p l e Rm s m args below meth c Hm locs cells slots lsM Z _ _ _ _ hC hx hb hF kk => ?_) k
  have hl := fr_at hF.1 q hq
  match r, hl, kk with
  | .inr k, hl, kk =>
    rcases mv_old G k with e | ⟨a, e⟩
    · rw [List.map_cons, e] at kk
      rw [e] at hl
      exact lv_aloadN hx hb hd hl kk
    · rw [List.map_cons, e] at kk
      rw [e] at hl
      exact lv_aload hx hb hd hl kk
  | .inl 0, hl, kk => exact lv_aloadN hx hb hd hl kk
  | .inl (_ + 1), hl, kk => exact lv_aload hx hb hd hl kk
-- stores
def put1 (i : Nat) (v : PV) (ls : Lc) : Lc := (i, v) :: ls.filter (fun q => !(q.1 == i) && !(q.1 + 1 == i && pcat q.2 == 2))
def put2 (i : Nat) (v : PV) (ls : Lc) : Lc := (i, v) :: ls.filter (fun q => !(q.1 == i) && (!(q.1 == i + 1) && !(q.1 + 1 == i && pcat q.2 == 2)))
theorem put1_mls (G : Gl) (i : Nat) (v : PV) (ls : Lc) : (i, mv G v) :: (mls G ls).filter (fun q => !(q.1 == i) && !(q.1 + 1 == i && q.2.category == 2)) = mls G (put1 i v ls) := by
  unfold put1 mls
  rw [List.map_cons, List.filter_map]
  congr 2
  apply List.filter_congr
  intro q _
  simp [Function.comp, mv_cat]
theorem put2_mls (G : Gl) (i : Nat) (v : PV) (ls : Lc) : (i, mv G v) :: (mls G ls).filter (fun q => !(q.1 == i) && (!(q.1 == i + 1) && !(q.1 + 1 == i && q.2.category == 2))) = mls G (put2 i v ls) := by
  unfold put2 mls
  rw [List.map_cons, List.filter_map]
  congr 2
  apply List.filter_congr
  intro q _
  simp [Function.comp, mv_cat]
theorem lok_put1 {i : Nat} {v : PV} (h : vok v) (hs : okL ls) : okL (put1 i v ls) := lok_cons h (fun q hq => hs q (List.mem_filter.mp hq).1)
theorem lok_put2 {i : Nat} {v : PV} (h : vok v) (hs : okL ls) : okL (put2 i v ls) := lok_cons h (fun q hq => hs q (List.mem_filter.mp hq).1)
theorem e_istore_n {j : Fin 4} {x : Int} (hd : decode (mC μ) pc = .ok (.istore_n j, 1)) (hn : (j : Nat) < mL μ) (hl : put1 (j : Nat) (vI x) ls = ls2) (k : E G μ (pc + 1) ls2 st S I R Q) : E G μ pc ls (vI x :: st) S I R Q := by
  subst hl
  exact e_gol (fun a b => ⟨lok_put1 (vok_hd b) a, vok_tl b⟩) (fun p l e Rm s m args below meth c Hm locs cells slots lsM Z _ _ hx hb hF kk => lv_istore_n hx hb hd rfl hF hn (put1_mls G _ (vI x) ls) kk) k
theorem e_istore {i : Nat} {x : Int} (hd : decode (mC μ) pc = .ok (.istore i, 2)) (hn : i < mL μ) (hl : put1 i (vI x) ls = ls2) (k : E G μ (pc + 2) ls2 st S I R Q) : E G μ pc ls (vI x :: st) S I R Q := by
  subst hl
  exact e_gol (fun a b => ⟨lok_put1 (vok_hd b) a, vok_tl b⟩) (fun p l e Rm s m args below meth c Hm locs cells slots lsM Z _ _ hx hb hF kk => lv_istore hx hb hd hF hn (put1_mls G _ (vI x) ls) kk) k
theorem e_lstore_n {j : Fin 4} {x : Int} (hd : decode (mC μ) pc = .ok (.lstore_n j, 1)) (hn : (j : Nat) + 1 < mL μ) (hl : put2 (j : Nat) (vL x) ls = ls2) (k : E G μ (pc + 1) ls2 st S I R Q) : E G μ pc ls (vL x :: st) S I R Q := by
  subst hl
  exact e_gol (fun a b => ⟨lok_put2 (vok_hd b) a, vok_tl b⟩) (fun p l e Rm s m args below meth c Hm locs cells slots lsM Z _ _ hx hb hF kk => lv_lstore_n hx hb hd rfl hF hn (put2_mls G _ (vL x) ls) kk) k
theorem e_lstore {i : Nat} {x : Int} (hd : decode (mC μ) pc = .ok (.lstore i, 2)) (hn : i + 1 < mL μ) (hl : put2 i (vL x) ls = ls2) (k : E G μ (pc + 2) ls2 st S I R Q) : E G μ pc ls (vL x :: st) S I R Q := by
  subst hl
  exact e_gol (fun a b => ⟨lok_put2 (vok_hd b) a, vok_tl b⟩) (fun p l e Rm s m args below meth c Hm locs cells slots lsM Z _ _ hx hb hF kk => lv_lstore hx hb hd hF hn (put2_mls G _ (vL x) ls) kk) k
theorem e_astore_n {j : Fin 4} {r : Nat ⊕ Nat} (hd : decode (mC μ) pc = .ok (.astore_n j, 1)) (hn : (j : Nat) < mL μ) (hl : put1 (j : Nat) (.inr r) ls = ls2) (k : E G μ (pc + 1) ls2 st S I R Q) : E G μ pc ls (.inr r :: st) S I R Q := by
  subst hl
  refine e_gol (fun a b => ⟨lok_put1 (vok_hd b) a, vok_tl b⟩) (fun p l e Rm s m args below meth c Hm locs cells slots lsM Z _ _ hx hb hF kk => ?_) k
  match r, kk with
  | .inr k, kk =>
    have e0 := put1_mls G (j : Nat) (vO k) ls
    rw [List.map_cons]
    rcases mv_old G k with e | ⟨a, e⟩
    · rw [e] at e0 ⊢
      exact lv_astore_nN hx hb hd rfl hF hn e0 kk
    · rw [e] at e0 ⊢
      exact lv_astore_n hx hb hd rfl hF hn e0 kk
  | .inl 0, kk => exact lv_astore_nN hx hb hd rfl hF hn (put1_mls G _ (vR 0) ls) kk
  | .inl (r + 1), kk => exact lv_astore_n hx hb hd rfl hF hn (put1_mls G _ (vR (r + 1)) ls) kk
theorem e_astore {i : Nat} {r : Nat ⊕ Nat} (hd : decode (mC μ) pc = .ok (.astore i, 2)) (hn : i < mL μ) (hl : put1 i (.inr r) ls = ls2) (k : E G μ (pc + 2) ls2 st S I R Q) : E G μ pc ls (.inr r :: st) S I R Q := by
  subst hl
  refine e_gol (fun a b => ⟨lok_put1 (vok_hd b) a, vok_tl b⟩) (fun p l e Rm s m args below meth c Hm locs cells slots lsM Z _ _ hx hb hF kk => ?_) k
  match r, kk with
  | .inr k, kk =>
    have e0 := put1_mls G i (vO k) ls
    rw [List.map_cons]
    rcases mv_old G k with e | ⟨a, e⟩
    · rw [e] at e0 ⊢
      exact lv_astoreN hx hb hd hF hn e0 kk
    · rw [e] at e0 ⊢
      exact lv_astore hx hb hd hF hn e0 kk
  | .inl 0, kk => exact lv_astoreN hx hb hd hF hn (put1_mls G _ (vR 0) ls) kk
  | .inl (r + 1), kk => exact lv_astore hx hb hd hF hn (put1_mls G _ (vR (r + 1)) ls) kk
theorem e_iinc {i : Nat} {n x : Int} (q : Nat) (hd : decode (mC μ) pc = .ok (.iinc i n, 3)) (hq : ls[q]? = some (i, vI x)) (hn : i < mL μ) (hl : put1 i (vI (w32 (x + n))) ls = ls2) (k : E G μ (pc + 3) ls2 st S I R Q) : E G μ pc ls st S I R Q := by
  subst hl
  refine e_gol (fun a b => ⟨lok_put1 (v := vI _) (InR_toInt _) a, b⟩) (fun p l e Rm s m args below meth c Hm locs cells slots lsM Z _ _ hx hb hF kk => ?_) k
  exact lv_iinc (x := Int32.ofInt x) (v := Int32.ofInt (w32 (x + n))) hx hb hd hF (k := q) (by simp [mls, hq, mv]) (by rw [o32w, Int32.ofInt_add]) hn (put1_mls G _ (vI (w32 (x + n))) ls) kk
/-- fewer locals, in another order -/
theorem e_sub (is : List Nat) (hl : is.filterMap (fun i => ls[i]?) = ls2) (k : E G μ pc ls2 st S I R Q) : E G μ pc ls st S I R Q := by
  have hsub : ∀ q ∈ ls2, q ∈ ls := by
    intro q hq
    rw [← hl] at hq
    obtain ⟨i, -, hi⟩ := List.mem_filterMap.mp hq
    exact List.mem_of_getElem? hi
  refine e_step (Nat.le_refl _) (Nat.le_refl _) (fun a b c d => ⟨a, b, fun q hq => c q (hsub q hq), d⟩) ?_ k
  intro p l e Rm s m args below meth c Hm locs cells slots lsM Z o1 o2 o3 o4 hC hc hs hF kk
  have hh : lv_has lsM (mL μ) (mls G ls2) := by
    refine ⟨hF.1.1, hF.1.2.1, fun q hq => ?_⟩
    obtain ⟨q', hq', rfl⟩ := List.mem_map.mp hq
    exact hF.1.2.2 _ (List.mem_map.mpr ⟨q', hsub q' hq', rfl⟩)
  have := kk Hm locs lsM ⟨hh, hF.2⟩
  simpa using this
-- arithmetic
theorem e_iadd {x y : Int} (hd : decode (mC μ) pc = .ok (.iadd, 1)) (k : E G μ (pc + 1) ls (vI (w32 (x + y)) :: st) S I R Q) : E G μ pc ls (vI y :: vI x :: st) S I R Q :=
  e_go (fun _ _ h => vok_cons (v := vI _) (InR_toInt _) (vok_tl (vok_tl h))) (fun p l e Rm s m args below meth c Hm locs cells slots lsM Z _ _ _ _ hC hx hb hF kk => lv_iadd hx hb hd (by rw [← Int32.ofInt_add, ← o32w]; exact kk)) k
theorem e_isub {x y : Int} (hd : decode (mC μ) pc = .ok (.isub, 1)) (k : E G μ (pc + 1) ls (vI (w32 (x - y)) :: st) S I R Q) : E G μ pc ls (vI y :: vI x :: st) S I R Q :=
  e_go (fun _ _ h => vok_cons (v := vI _) (InR_toInt _) (vok_tl (vok_tl h))) (fun p l e Rm s m args below meth c Hm locs cells slots lsM Z _ _ _ _ hC hx hb hF kk => lv_isub hx hb hd (by rw [← Int32.ofInt_sub, ← o32w]; exact kk)) k
theorem e_imul {x y : Int} (hd : decode (mC μ) pc = .ok (.imul, 1)) (k : E G μ (pc + 1) ls (vI (w32 (x * y)) :: st) S I R Q) : E G μ pc ls (vI y :: vI x :: st) S I R Q :=
  e_go (fun _ _ h => vok_cons (v := vI _) (InR_toInt _) (vok_tl (vok_tl h))) (fun p l e Rm s m args below meth c Hm locs cells slots lsM Z _ _ _ _ hC hx hb hF kk => lv_imul hx hb hd (by rw [← Int32.ofInt_mul, ← o32w]; exact kk)) k
theorem e_ineg {x : Int} (hd : decode (mC μ) pc = .ok (.ineg, 1)) (k : E G μ (pc + 1) ls (vI (w32 (-x)) :: st) S I R Q) : E G μ pc ls (vI x :: st) S I R Q :=
  e_go (fun _ _ h => vok_cons (v := vI _) (InR_toInt _) (vok_tl h)) (fun p l e Rm s m args below meth c Hm locs cells slots lsM Z _ _ _ _ hC hx hb hF kk => lv_ineg hx hb hd (by rw [← Int32.ofInt_neg, ← o32w]; exact kk)) k
theorem e_iand {x y : Int} (hd : decode (mC μ) pc = .ok (.iand, 1)) (k : E G μ (pc + 1) ls (vI (iand x y) :: st) S I R Q) : E G μ pc ls (vI y :: vI x :: st) S I R Q :=
  e_go (fun _ _ h => vok_cons (v := vI _) (InR_toInt _) (vok_tl (vok_tl h))) (fun p l e Rm s m args below meth c Hm locs cells slots lsM Z _ _ _ _ hC hx hb hF kk => lv_iand hx hb hd (by rw [← Int32.ofInt_toInt (_ &&& _)]; exact kk)) k
theorem e_ior {x y : Int} (hd : decode (mC μ) pc = .ok (.ior, 1)) (k : E G μ (pc + 1) ls (vI (ior x y) :: st) S I R Q) : E G μ pc ls (vI y :: vI x :: st) S I R Q :=
  e_go (fun _ _ h => vok_cons (v := vI _) (InR_toInt _) (vok_tl (vok_tl h))) (fun p l e Rm s m args below meth c Hm locs cells slots lsM Z _ _ _ _ hC hx hb hF kk => lv_ior hx hb hd (by rw [← Int32.ofInt_toInt (_ ||| _)]; exact kk)) k
theorem e_ixor {x y : Int} (hd : decode (mC μ) pc = .ok (.ixor, 1)) (k : E G μ (pc + 1) ls (vI (ixor x y) :: st) S I R Q) : E G μ pc ls (vI y :: vI x :: st) S I R Q :=
  e_go (fun _ _ h => vok_cons (v := vI _) (InR_toInt _) (vok_tl (vok_tl h))) (fun p l e Rm s m args below meth c Hm locs cells slots lsM Z _ _ _ _ hC hx hb hF kk => lv_ixor hx hb hd (by rw [← Int32.ofInt_toInt (_ ^^^ _)]; exact kk)) k
theorem e_ishl {x y : Int} (hd : decode (mC μ) pc = .ok (.ishl, 1)) (k : E G μ (pc + 1) ls (vI (ishl x y) :: st) S I R Q) : E G μ pc ls (vI y :: vI x :: st) S I R Q :=
  e_go (fun _ _ h => vok_cons (v := vI _) (InR_toInt _) (vok_tl (vok_tl h))) (fun p l e Rm s m args below meth c Hm locs cells slots lsM Z _ _ _ _ hC hx hb hF kk => lv_ishl hx hb hd (by rw [← Int32.ofInt_toInt (_ <<< _)]; exact kk)) k
theorem e_ishr {x y : Int} (hd : decode (mC μ) pc = .ok (.ishr, 1)) (k : E G μ (pc + 1) ls (vI (ishr x y) :: st) S I R Q) : E G μ pc ls (vI y :: vI x :: st) S I R Q :=
  e_go (fun _ _ h => vok_cons (v := vI _) (InR_toInt _) (vok_tl (vok_tl h))) (fun p l e Rm s m args below meth c Hm locs cells slots lsM Z _ _ _ _ hC hx hb hF kk => lv_ishr hx hb hd (by rw [← Int32.ofInt_toInt (_ >>> _)]; exact kk)) k
theorem e_iushr {x y : Int} (hd : decode (mC μ) pc = .ok (.iushr, 1)) (k : E G μ (pc + 1) ls (vI (iushr x y) :: st) S I R Q) : E G μ pc ls (vI y :: vI x :: st) S I R Q :=
  e_go (fun _ _ h => vok_cons (v := vI _) (InR_toInt _) (vok_tl (vok_tl h))) (fun p l e Rm s m args below meth c Hm locs cells slots lsM Z _ _ _ _ hC hx hb hF kk => lv_iushr (x := Int32.ofInt x) (y := Int32.ofInt y) (v := Int32.ofInt (iushr x y)) hx hb hd (Int32.ofInt_toInt _).symm kk) k
theorem o32_ne {y : Int} (h : InR y) (hne : y ≠ 0) : ¬ Int32.ofInt y = 0 := fun e => hne (by rw [← o32 h, e]; rfl)
theorem o64_ne {y : Int} (h : InL y) (hne : y ≠ 0) : ¬ Int64.ofInt y = 0 := fun e => hne (by rw [← o64 h, e]; rfl)
theorem e_irem {x y : Int} (hd : decode (mC μ) pc = .ok (.irem, 1)) (hne : y ≠ 0) (k : E G μ (pc + 1) ls (vI (irem x y) :: st) S I R Q) : E G μ pc ls (vI y :: vI x :: st) S I R Q :=
  e_go (fun _ _ h => vok_cons (v := vI _) (InR_toInt _) (vok_tl (vok_tl h))) (fun p l e Rm s m args below meth c Hm locs cells slots lsM Z _ _ _ o4 hC hx hb hF kk => lv_irem hx hb hd (o32_ne (vok_hd o4) hne) (by rw [← Int32.ofInt_toInt (_ - _)]; exact kk)) k
theorem e_idiv {x y : Int} (hd : decode (mC μ) pc = .ok (.idiv, 1)) (hne : y ≠ 0) (k : E G μ (pc + 1) ls (vI (idiv x y) :: st) S I R Q) : E G μ pc ls (vI y :: vI x :: st) S I R Q :=
  e_go (fun _ _ h => vok_cons (v := vI _) (InR_toInt _) (vok_tl (vok_tl h))) (fun p l e Rm s m args below meth c Hm locs cells slots lsM Z _ _ _ o4 hC hx hb hF kk => lv_idiv hx hb hd (o32_ne (vok_hd o4) hne) (by rw [← Int32.ofInt_toInt (_ / _)]; exact kk)) k
theorem e_ladd {x y : Int} (hd : decode (mC μ) pc = .ok (.ladd, 1)) (k : E G μ (pc + 1) ls (vL (w64 (x + y)) :: st) S I R Q) : E G μ pc ls (vL y :: vL x :: st) S I R Q :=
  e_go (fun _ _ h => vok_cons (v := vL _) (InL_toInt _) (vok_tl (vok_tl h))) (fun p l e Rm s m args below meth c Hm locs cells slots lsM Z _ _ _ _ hC hx hb hF kk => lv_ladd hx hb hd (by rw [← Int64.ofInt_add, ← o64w]; exact kk)) k
theorem e_lsub {x y : Int} (hd : decode (mC μ) pc = .ok (.lsub, 1)) (k : E G μ (pc + 1) ls (vL (w64 (x - y)) :: st) S I R Q) : E G μ pc ls (vL y :: vL x :: st) S I R Q :=
  e_go (fun _ _ h => vok_cons (v := vL _) (InL_toInt _) (vok_tl (vok_tl h))) (fun p l e Rm s m args below meth c Hm locs cells slots lsM Z _ _ _ _ hC hx hb hF kk => lv_lsub hx hb hd (by rw [← Int64.ofInt_sub, ← o64w]; exact kk)) k
theorem e_lmul {x y : Int} (hd : decode (mC μ) pc = .ok (.lmul, 1)) (k : E G μ (pc + 1) ls (vL (w64 (x * y)) :: st) S I R Q) : E G μ pc ls (vL y :: vL x :: st) S I R Q :=
  e_go (fun _ _ h => vok_cons (v := vL _) (InL_toInt _) (vok_tl (vok_tl h))) (fun p l e Rm s m args below meth c Hm locs cells slots lsM Z _ _ _ _ hC hx hb hF kk => lv_lmul hx hb hd (by rw [← Int64.ofInt_mul, ← o64w]; exact kk)) k
theorem e_lneg {x : Int} (hd : decode (mC μ) pc = .ok (.lneg, 1)) (k : E G μ (pc + 1) ls (vL (w64 (-x)) :: st) S I R Q) : E G μ pc ls (vL x :: st) S I R Q :=
  e_go (fun _ _ h => vok_cons (v := vL _) (InL_toInt _) (vok_tl h)) (fun p l e Rm s m args below meth c Hm locs cells slots lsM Z _ _ _ _ hC hx hb hF kk => lv_lneg hx hb hd (by rw [← Int64.ofInt_neg, ← o64w]; exact kk)) k
theorem e_lrem {x y : Int} (hd : decode (mC μ) pc = .ok (.lrem, 1)) (hne : y ≠ 0) (k : E G μ (pc + 1) ls (vL (lrem x y) :: st) S I R Q) : E G μ pc ls (vL y :: vL x :: st) S I R Q :=
  e_go (fun _ _ h => vok_cons (v := vL _) (InL_toInt _) (vok_tl (vok_tl h))) (fun p l e Rm s m args below meth c Hm locs cells slots lsM Z _ _ _ o4 hC hx hb hF kk => lv_lrem hx hb hd (o64_ne (vok_hd o4) hne) (by rw [← Int64.ofInt_toInt (_ - _)]; exact kk)) k
theorem e_lcmp {x y : Int} (hd : decode (mC μ) pc = .ok (.lcmp, 1)) (k : E G μ (pc + 1) ls (vI (lcmp x y) :: st) S I R Q) : E G μ pc ls (vL y :: vL x :: st) S I R Q :=
  e_go (fun _ _ h => vok_cons (v := vI _) (InR_toInt _) (vok_tl (vok_tl h))) (fun p l e Rm s m args below meth c Hm locs cells slots lsM Z _ _ _ _ hC hx hb hF kk => W.lcmp hx hb hd (by rw [← Int32.ofInt_toInt (lg_cmp _ _)]; exact kk)) k
theorem e_i2l {x : Int} (hd : decode (mC μ) pc = .ok (.i2l, 1)) (k : E G μ (pc + 1) ls (vL x :: st) S I R Q) : E G μ pc ls (vI x :: st) S I R Q :=
  e_go (fun _ _ h => vok_cons (v := vL _) (InR.L (vok_hd h)) (vok_tl h)) (fun p l e Rm s m args below meth c Hm locs cells slots lsM Z _ _ _ o4 hC hx hb hF kk => lv_i2l (x := Int32.ofInt x) (v := Int64.ofInt x) hx hb hd (by rw [← Int64.ofInt_int32ToInt, o32 (vok_hd o4)]) kk) k
theorem e_l2i {x : Int} (hd : decode (mC μ) pc = .ok (.l2i, 1)) (k : E G μ (pc + 1) ls (vI (w32 x) :: st) S I R Q) : E G μ pc ls (vL x :: st) S I R Q :=
  e_go (fun _ _ h => vok_cons (v := vI _) (InR_toInt _) (vok_tl h)) (fun p l e Rm s m args below meth c Hm locs cells slots lsM Z _ _ _ o4 hC hx hb hF kk => lv_l2i (x := Int64.ofInt x) (v := Int32.ofInt (w32 x)) hx hb hd (by rw [o32w, ← Int32.ofInt_int64ToInt, o64 (vok_hd o4)]) kk) k
theorem e_i2b {x : Int} (hd : decode (mC μ) pc = .ok (.i2b, 1)) (k : E G μ (pc + 1) ls (vI (i2b x) :: st) S I R Q) : E G μ pc ls (vI x :: st) S I R Q :=
  e_go (fun _ _ h => vok_cons (v := vI _) (InR_toInt _) (vok_tl h)) (fun p l e Rm s m args below meth c Hm locs cells slots lsM Z _ _ _ o4 hC hx hb hF kk => lv_i2b (x := Int32.ofInt x) (v := Int32.ofInt (i2b x)) hx hb hd (Int32.ofInt_toInt _).symm kk) k
theorem e_dup {v : PV} (hd : decode (mC μ) pc = .ok (.dup, 1)) (hv : pcat v = 1) (k : E G μ (pc + 1) ls (v :: v :: st) S I R Q) : E G μ pc ls (v :: st) S I R Q :=
  e_go (fun _ _ h => vok_cons (vok_hd h) h) (fun p l e Rm s m args below meth c Hm locs cells slots lsM Z _ _ _ _ hC hx hb hF kk => lv_dup hx hb hd ((mv_cat G v).trans hv) kk) k
theorem e_dup2 {v w : PV} (hd : decode (mC μ) pc = .ok (.dup2, 1)) (hv : pcat v = 1) (hw : pcat w = 1) (k : E G μ (pc + 1) ls (v :: w :: v :: w :: st) S I R Q) : E G μ pc ls (v :: w :: st) S I R Q :=
  e_go (fun _ _ h => vok_cons (vok_hd h) (vok_cons (vok_hd (vok_tl h)) h)) (fun p l e Rm s m args below meth c Hm locs cells slots lsM Z _ _ _ _ hC hx hb hF kk => lv_dup2_11 hx hb hd ((mv_cat G v).trans hv) ((mv_cat G w).trans hw) kk) k
theorem e_pop {v : PV} (hd : decode (mC μ) pc = .ok (.pop, 1)) (hv : pcat v = 1) (k : E G μ (pc + 1) ls st S I R Q) : E G μ pc ls (v :: st) S I R Q :=
  e_go (fun _ _ h => vok_tl h) (fun p l e Rm s m args below meth c Hm locs cells slots lsM Z _ _ _ _ hC hx hb hF kk => lv_pop hx hb hd ((mv_cat G v).trans hv) kk) k
-- jumps
theorem e_goto {off : Int} {tgt : Nat} (hd : decode (mC μ) pc = .ok (.goto off, 3)) (ht : (pc : Int) + off = (tgt : Int)) (k : E G μ tgt ls st S I R Q) : E G μ pc ls st S I R Q :=
  e_go (fun _ _ h => h) (fun p l e Rm s m args below meth c Hm locs cells slots lsM Z _ _ _ _ hC hx hb hF kk => lv_goto hx hb hd ht kk) k
theorem e_ok (h : okS S → okI S I → okL ls → okV st → E G μ pc ls st S I R Q) : E G μ pc ls st S I R Q := E.ok h
theorem i_lt {x y : Int} (hx : InR x) (hy : InR y) : (Int32.ofInt x < Int32.ofInt y) ↔ x < y := by rw [Int32.lt_iff_toInt_lt, o32 hx, o32 hy]
theorem i_le {x y : Int} (hx : InR x) (hy : InR y) : (Int32.ofInt x ≤ Int32.ofInt y) ↔ x ≤ y := by rw [Int32.le_iff_toInt_le, o32 hx, o32 hy]
theorem i_eq {x y : Int} (hx : InR x) (hy : InR y) : (Int32.ofInt x = Int32.ofInt y) ↔ x = y := by rw [← Int32.toInt_inj, o32 hx, o32 hy]
theorem InR0 : InR 0 := by unfold InR; omega
end GO
end
section
/-! ===== THE WALK: jumps on numbers, fields, arrays ===== -/
section HP
variable {G : Gl} {μ : MB} {pc pc2 : Nat} {ls ls2 : Lc} {st st2 : List PV} {S S2 : Sh} {I I2 : MI} {R R2 : MR} {Q : PQ}
theorem e_icmp_eq {x y off : Int} {tgt : Nat} (hd : decode (mC μ) pc = .ok (.if_icmp .eq off, 3)) (ht : (pc : Int) + off = (tgt : Int)) (kt : x = y → E G μ tgt ls st S I R Q) (kf : ¬ (x = y) → E G μ (pc + 3) ls st S I R Q) : E G μ pc ls (vI y :: vI x :: st) S I R Q := by
  by_cases hxy : x = y
  · refine e_go (fun _ _ h => vok_tl (vok_tl h)) (fun p l e Rm s m args below meth c Hm locs cells slots lsM Z _ _ _ o4 hC hx hb hF kk => ?_) (kt hxy)
    have hx1 : InR x := vok_hd (vok_tl o4)
    have hy1 : InR y := vok_hd o4
    exact lv_icmp_eq hx hb hd ht (fun _ => kk) (fun h => absurd ((i_eq hx1 hy1).mpr hxy) h)
  · refine e_go (fun _ _ h => vok_tl (vok_tl h)) (fun p l e Rm s m args below meth c Hm locs cells slots lsM Z _ _ _ o4 hC hx hb hF kk => ?_) (kf hxy)
    have hx1 : InR x := vok_hd (vok_tl o4)
    have hy1 : InR y := vok_hd o4
    exact lv_icmp_eq hx hb hd ht (fun h => absurd ((i_eq hx1 hy1).mp h) hxy) (fun _ => kk)
theorem e_icmp_ne {x y off : Int} {tgt : Nat} (hd : decode (mC μ) pc = .ok (.if_icmp .ne off, 3)) (ht : (pc : Int) + off = (tgt : Int)) (kt : x ≠ y → E G μ tgt ls st S I R Q) (kf : ¬ (x ≠ y) → E G μ (pc + 3) ls st S I R Q) : E G μ pc ls (vI y :: vI x :: st) S I R Q := by
  by_cases hxy : x ≠ y
  · refine e_go (fun _ _ h => vok_tl (vok_tl h)) (fun p l e Rm s m args below meth c Hm locs cells slots lsM Z _ _ _ o4 hC hx hb hF kk => ?_) (kt hxy)
    have hx1 : InR x := vok_hd (vok_tl o4)
    have hy1 : InR y := vok_hd o4
    exact lv_icmp_ne hx hb hd ht (fun _ => kk) (fun h => absurd ((i_eq hx1 hy1).mp h) hxy)
  · refine e_go (fun _ _ h => vok_tl (vok_tl h)) (fun p l e Rm s m args below meth c Hm locs cells slots lsM Z _ _ _ o4 hC hx hb hF kk => ?_) (kf hxy)
    have hx1 : InR x := vok_hd (vok_tl o4)
    have hy1 : InR y := vok_hd o4
    exact lv_icmp_ne hx hb hd ht (fun h => absurd ((not_congr (i_eq hx1 hy1)).mp h) hxy) (fun _ => kk)
theorem e_icmp_lt {x y off : Int} {tgt : Nat} (hd : decode (mC μ) pc = .ok (.if_icmp .lt off, 3)) (ht : (pc : Int) + off = (tgt : Int)) (kt : x < y → E G μ tgt ls st S I R Q) (kf : ¬ (x < y) → E G μ (pc + 3) ls st S I R Q) : E G μ pc ls (vI y :: vI x :: st) S I R Q := by
  by_cases hxy : x < y
  · refine e_go (fun _ _ h => vok_tl (vok_tl h)) (fun p l e Rm s m args below meth c Hm locs cells slots lsM Z _ _ _ o4 hC hx hb hF kk => ?_) (kt hxy)
    have hx1 : InR x := vok_hd (vok_tl o4)
    have hy1 : InR y := vok_hd o4
    exact lv_icmp_lt hx hb hd ht (fun _ => kk) (fun h => absurd ((i_lt hx1 hy1).mpr hxy) h)
  · refine e_go (fun _ _ h => vok_tl (vok_tl h)) (fun p l e Rm s m args below meth c Hm locs cells slots lsM Z _ _ _ o4 hC hx hb hF kk => ?_) (kf hxy)
    have hx1 : InR x := vok_hd (vok_tl o4)
    have hy1 : InR y := vok_hd o4
    exact lv_icmp_lt hx hb hd ht (fun h => absurd ((i_lt hx1 hy1).mp h) hxy) (fun _ => kk)
theorem e_icmp_ge {x y off : Int} {tgt : Nat} (hd : decode (mC μ) pc = .ok (.if_icmp .ge off, 3)) (ht : (pc : Int) + off = (tgt : Int)) (kt : y ≤ x → E G μ tgt ls st S I R Q) (kf : ¬ (y ≤ x) → E G μ (pc + 3) ls st S I R Q) : E G μ pc ls (vI y :: vI x :: st) S I R Q := by
  by_cases hxy : y ≤ x
  · refine e_go (fun _ _ h => vok_tl (vok_tl h)) (fun p l e Rm s m args below meth c Hm locs cells slots lsM Z _ _ _ o4 hC hx hb hF kk => ?_) (kt hxy)
    have hx1 : InR x := vok_hd (vok_tl o4)
    have hy1 : InR y := vok_hd o4
    exact lv_icmp_ge hx hb hd ht (fun _ => kk) (fun h => absurd ((i_le hy1 hx1).mpr hxy) h)
  · refine e_go (fun _ _ h => vok_tl (vok_tl h)) (fun p l e Rm s m args below meth c Hm locs cells slots lsM Z _ _ _ o4 hC hx hb hF kk => ?_) (kf hxy)
    have hx1 : InR x := vok_hd (vok_tl o4)
    have hy1 : InR y := vok_hd o4
    exact lv_icmp_ge hx hb hd ht (fun h => absurd ((i_le hy1 hx1).mp h) hxy) (fun _ => kk)
theorem e_icmp_gt {x y off : Int} {tgt : Nat} (hd : decode (mC μ) pc = .ok (.if_icmp .gt off, 3)) (ht : (pc : Int) + off = (tgt : Int)) (kt : y < x → E G μ tgt ls st S I R Q) (kf : ¬ (y < x) → E G μ (pc + 3) ls st S I R Q) : E G μ pc ls (vI y :: vI x :: st) S I R Q := by
  by_cases hxy : y < x
  · refine e_go (fun _ _ h => vok_tl (vok_tl h)) (fun p l e Rm s m args below meth c Hm locs cells slots lsM Z _ _ _ o4 hC hx hb hF kk => ?_) (kt hxy)
    have hx1 : InR x := vok_hd (vok_tl o4)
    have hy1 : InR y := vok_hd o4
    exact lv_icmp_gt hx hb hd ht (fun _ => kk) (fun h => absurd ((i_lt hy1 hx1).mpr hxy) h)
  · refine e_go (fun _ _ h => vok_tl (vok_tl h)) (fun p l e Rm s m args below meth c Hm locs cells slots lsM Z _ _ _ o4 hC hx hb hF kk => ?_) (kf hxy)
    have hx1 : InR x := vok_hd (vok_tl o4)
    have hy1 : InR y := vok_hd o4
    exact lv_icmp_gt hx hb hd ht (fun h => absurd ((i_lt hy1 hx1).mp h) hxy) (fun _ => kk)
theorem e_icmp_le {x y off : Int} {tgt : Nat} (hd : decode (mC μ) pc = .ok (.if_icmp .le off, 3)) (ht : (pc : Int) + off = (tgt : Int)) (kt : x ≤ y → E G μ tgt ls st S I R Q) (kf : ¬ (x ≤ y) → E G μ (pc + 3) ls st S I R Q) : E G μ pc ls (vI y :: vI x :: st) S I R Q := by
  by_cases hxy : x ≤ y
  · refine e_go (fun _ _ h => vok_tl (vok_tl h)) (fun p l e Rm s m args below meth c Hm locs cells slots lsM Z _ _ _ o4 hC hx hb hF kk => ?_) (kt hxy)
    have hx1 : InR x := vok_hd (vok_tl o4)
    have hy1 : InR y := vok_hd o4
    exact lv_icmp_le hx hb hd ht (fun _ => kk) (fun h => absurd ((i_le hx1 hy1).mpr hxy) h)
  · refine e_go (fun _ _ h => vok_tl (vok_tl h)) (fun p l e Rm s m args below meth c Hm locs cells slots lsM Z _ _ _ o4 hC hx hb hF kk => ?_) (kf hxy)
    have hx1 : InR x := vok_hd (vok_tl o4)
    have hy1 : InR y := vok_hd o4
    exact lv_icmp_le hx hb hd ht (fun h => absurd ((i_le hx1 hy1).mp h) hxy) (fun _ => kk)
theorem e_if_eq {x off : Int} {tgt : Nat} (hd : decode (mC μ) pc = .ok (.ifCond .eq off, 3)) (ht : (pc : Int) + off = (tgt : Int)) (kt : x = 0 → E G μ tgt ls st S I R Q) (kf : ¬ (x = 0) → E G μ (pc + 3) ls st S I R Q) : E G μ pc ls (vI x :: st) S I R Q := by
  by_cases hxy : x = 0
  · refine e_go (fun _ _ h => vok_tl h) (fun p l e Rm s m args below meth c Hm locs cells slots lsM Z _ _ _ o4 hC hx hb hF kk => ?_) (kt hxy)
    have hx1 : InR x := vok_hd o4
    exact lv_if_eq hx hb hd ht (fun _ => kk) (fun h => absurd ((i_eq hx1 InR0).mpr hxy) h)
  · refine e_go (fun _ _ h => vok_tl h) (fun p l e Rm s m args below meth c Hm locs cells slots lsM Z _ _ _ o4 hC hx hb hF kk => ?_) (kf hxy)
    have hx1 : InR x := vok_hd o4
    exact lv_if_eq hx hb hd ht (fun h => absurd ((i_eq hx1 InR0).mp h) hxy) (fun _ => kk)
theorem e_if_ne {x off : Int} {tgt : Nat} (hd : decode (mC μ) pc = .ok (.ifCond .ne off, 3)) (ht : (pc : Int) + off = (tgt : Int)) (kt : x ≠ 0 → E G μ tgt ls st S I R Q) (kf : ¬ (x ≠ 0) → E G μ (pc + 3) ls st S I R Q) : E G μ pc ls (vI x :: st) S I R Q := by
  by_cases hxy : x ≠ 0
  · refine e_go (fun _ _ h => vok_tl h) (fun p l e Rm s m args below meth c Hm locs cells slots lsM Z _ _ _ o4 hC hx hb hF kk => ?_) (kt hxy)
    have hx1 : InR x := vok_hd o4
    exact lv_if_ne hx hb hd ht (fun _ => kk) (fun h => absurd ((i_eq hx1 InR0).mp h) hxy)
  · refine e_go (fun _ _ h => vok_tl h) (fun p l e Rm s m args below meth c Hm locs cells slots lsM Z _ _ _ o4 hC hx hb hF kk => ?_) (kf hxy)
    have hx1 : InR x := vok_hd o4
    exact lv_if_ne hx hb hd ht (fun h => absurd ((not_congr (i_eq hx1 InR0)).mp h) hxy) (fun _ => kk)
theorem e_if_lt {x off : Int} {tgt : Nat} (hd : decode (mC μ) pc = .ok (.ifCond .lt off, 3)) (ht : (pc : Int) + off = (tgt : Int)) (kt : x < 0 → E G μ tgt ls st S I R Q) (kf : ¬ (x < 0) → E G μ (pc + 3) ls st S I R Q) : E G μ pc ls (vI x :: st) S I R Q := by
  by_cases hxy : x < 0
  · refine e_go (fun _ _ h => vok_tl h) (fun p l e Rm s m args below meth c Hm locs cells slots lsM Z _ _ _ o4 hC hx hb hF kk => ?_) (kt hxy)
    have hx1 : InR x := vok_hd o4
    exact lv_if_lt hx hb hd ht (fun _ => kk) (fun h => absurd ((i_lt hx1 InR0).mpr hxy) h)
  · refine e_go (fun _ _ h => vok_tl h) (fun p l e Rm s m args below meth c Hm locs cells slots lsM Z _ _ _ o4 hC hx hb hF kk => ?_) (kf hxy)
    have hx1 : InR x := vok_hd o4
    exact lv_if_lt hx hb hd ht (fun h => absurd ((i_lt hx1 InR0).mp h) hxy) (fun _ => kk)
theorem e_if_ge {x off : Int} {tgt : Nat} (hd : decode (mC μ) pc = .ok (.ifCond .ge off, 3)) (ht : (pc : Int) + off = (tgt : Int)) (kt : 0 ≤ x → E G μ tgt ls st S I R Q) (kf : ¬ (0 ≤ x) → E G μ (pc + 3) ls st S I R Q) : E G μ pc ls (vI x :: st) S I R Q := by
  by_cases hxy : 0 ≤ x
  · refine e_go (fun _ _ h => vok_tl h) (fun p l e Rm s m args below meth c Hm locs cells slots lsM Z _ _ _ o4 hC hx hb hF kk => ?_) (kt hxy)
    have hx1 : InR x := vok_hd o4
    exact lv_if_ge hx hb hd ht (fun _ => kk) (fun h => absurd ((i_le InR0 hx1).mpr hxy) h)
  · refine e_go (fun _ _ h => vok_tl h) (fun p l e Rm s m args below meth c Hm locs cells slots lsM Z _ _ _ o4 hC hx hb hF kk => ?_) (kf hxy)
    have hx1 : InR x := vok_hd o4
    exact lv_if_ge hx hb hd ht (fun h => absurd ((i_le InR0 hx1).mp h) hxy) (fun _ => kk)
theorem e_if_gt {x off : Int} {tgt : Nat} (hd : decode (mC μ) pc = .ok (.ifCond .gt off, 3)) (ht : (pc : Int) + off = (tgt : Int)) (kt : 0 < x → E G μ tgt ls st S I R Q) (kf : ¬ (0 < x) → E G μ (pc + 3) ls st S I R Q) : E G μ pc ls (vI x :: st) S I R Q := by
  by_cases hxy : 0 < x
  · refine e_go (fun _ _ h => vok_tl h) (fun p l e Rm s m args below meth c Hm locs cells slots lsM Z _ _ _ o4 hC hx hb hF kk => ?_) (kt hxy)
    have hx1 : InR x := vok_hd o4
    exact lv_if_gt hx hb hd ht (fun _ => kk) (fun h => absurd ((i_lt InR0 hx1).mpr hxy) h)
  · refine e_go (fun _ _ h => vok_tl h) (fun p l e Rm s m args below meth c Hm locs cells slots lsM Z _ _ _ o4 hC hx hb hF kk => ?_) (kf hxy)
    have hx1 : InR x := vok_hd o4
    exact lv_if_gt hx hb hd ht (fun h => absurd ((i_lt InR0 hx1).mp h) hxy) (fun _ => kk)
theorem e_if_le {x off : Int} {tgt : Nat} (hd : decode (mC μ) pc = .ok (.ifCond .le off, 3)) (ht : (pc : Int) + off = (tgt : Int)) (kt : x ≤ 0 → E G μ tgt ls st S I R Q) (kf : ¬ (x ≤ 0) → E G μ (pc + 3) ls st S I R Q) : E G μ pc ls (vI x :: st) S I R Q := by
  by_cases hxy : x ≤ 0
  · refine e_go (fun _ _ h => vok_tl h) (fun p l e Rm s m args below meth c Hm locs cells slots lsM Z _ _ _ o4 hC hx hb hF kk => ?_) (kt hxy)
    have hx1 : InR x := vok_hd o4
    exact lv_if_le hx hb hd ht (fun _ => kk) (fun h => absurd ((i_le hx1 InR0).mpr hxy) h)
  · refine e_go (fun _ _ h => vok_tl h) (fun p l e Rm s m args below meth c Hm locs cells slots lsM Z _ _ _ o4 hC hx hb hF kk => ?_) (kf hxy)
    have hx1 : InR x := vok_hd o4
    exact lv_if_le hx hb hd ht (fun h => absurd ((i_le hx1 InR0).mp h) hxy) (fun _ => kk)
theorem e_tabOut {dflt lo hi : Int} {offs : Array Int} {len : Nat} {x : Int} {tgt : Nat} (hd : decode (mC μ) pc = .ok (.tableswitch dflt lo hi offs, len)) (h : x < lo ∨ hi < x) (ht : (pc : Int) + dflt = (tgt : Int)) (k : E G μ tgt ls st S I R Q) : E G μ pc ls (vI x :: st) S I R Q :=
  e_go (fun _ _ h => vok_tl h) (fun p l e Rm s m args below meth c Hm locs cells slots lsM Z _ _ _ o4 hC hx hb hF kk => lv_tableOut hx hb hd (by rw [o32 (vok_hd o4)]; exact h) ht kk) k
theorem e_tabIn {dflt lo hi : Int} {offs : Array Int} {len : Nat} {x off : Int} {tgt : Nat} (hd : decode (mC μ) pc = .ok (.tableswitch dflt lo hi offs, len)) (y : Int) (e : x = y) (h : lo ≤ y ∧ y ≤ hi) (ho : offs[(y - lo).toNat]? = some off) (ht : (pc : Int) + off = (tgt : Int)) (k : E G μ tgt ls st S I R Q) : E G μ pc ls (vI x :: st) S I R Q := by
  subst e
  exact e_go (fun _ _ h => vok_tl h) (fun p l e Rm s m args below meth c Hm locs cells slots lsM Z _ _ _ o4 hC hx hb hF kk => lv_tableIn hx hb hd (by rw [o32 (vok_hd o4)]; omega) (by rw [o32 (vok_hd o4)]; omega) (by rw [o32 (vok_hd o4)]; exact ho) ht kk) k
theorem e_ifnull {r : Nat} {off : Int} {tgt : Nat} (hd : decode (mC μ) pc = .ok (.ifnull off, 3)) (ht : (pc : Int) + off = (tgt : Int)) (kt : r = 0 → E G μ tgt ls st S I R Q) (kf : ¬ r = 0 → E G μ (pc + 3) ls st S I R Q) : E G μ pc ls (vR r :: st) S I R Q := by
  cases r with
  | zero => exact e_go (fun _ _ h => vok_tl h) (fun p l e Rm s m args below meth c Hm locs cells slots lsM Z _ _ _ o4 hC hx hb hF kk => lv_ifnullN hx hb hd ht kk) (kt rfl)
  | succ r => exact e_go (fun _ _ h => vok_tl h) (fun p l e Rm s m args below meth c Hm locs cells slots lsM Z _ _ _ o4 hC hx hb hF kk => lv_ifnull hx hb hd kk) (kf (by omega))
theorem e_ifnonnull {r : Nat} {off : Int} {tgt : Nat} (hd : decode (mC μ) pc = .ok (.ifnonnull off, 3)) (ht : (pc : Int) + off = (tgt : Int)) (kt : ¬ r = 0 → E G μ tgt ls st S I R Q) (kf : r = 0 → E G μ (pc + 3) ls st S I R Q) : E G μ pc ls (vR r :: st) S I R Q := by
  cases r with
  | zero => exact e_go (fun _ _ h => vok_tl h) (fun p l e Rm s m args below meth c Hm locs cells slots lsM Z _ _ _ o4 hC hx hb hF kk => lv_ifnonnullN hx hb hd kk) (kf rfl)
  | succ r => exact e_go (fun _ _ h => vok_tl h) (fun p l e Rm s m args below meth c Hm locs cells slots lsM Z _ _ _ o4 hC hx hb hF kk => lv_ifnonnull hx hb hd ht kk) (kt (by omega))
end HP
-- two-step maps
def up1 {α : Type} (f : Nat → α) (k : Nat) (v : α) : Nat → α := fun j => if j = k then v else f j
def up2 {α : Type} (f : Nat → Nat → α) (a k : Nat) (v : α) : Nat → Nat → α := up1 f a (up1 (f a) k v)
theorem up1_s {α : Type} (f : Nat → α) (k : Nat) (v : α) : up1 f k v k = v := if_pos rfl
theorem up1_n {α : Type} {f : Nat → α} {k j : Nat} {v : α} (h : j ≠ k) : up1 f k v j = f j := if_neg h
theorem up2_s {α : Type} (f : Nat → Nat → α) (a k : Nat) (v : α) : up2 f a k v a = up1 (f a) k v := if_pos rfl
theorem up2_n {α : Type} {f : Nat → Nat → α} {a b k : Nat} {v : α} (h : b ≠ a) : up2 f a k v b = f b := if_neg h
theorem up2_ss {α : Type} (f : Nat → Nat → α) (a k : Nat) (v : α) : up2 f a k v a k = v := by rw [up2_s, up1_s]
theorem up2_sn {α : Type} {f : Nat → Nat → α} {a k j : Nat} {v : α} (h : j ≠ k) : up2 f a k v a j = f a j := by rw [up2_s, up1_n h]
-- the classes of the world
def clT (ci : Nat) : u_T := match ci with
  | 0 => TX0 | 1 => TX1 | 2 => TX2 | 3 => TX4 | 4 => TX5 | 5 => TX6 | 6 => TX7 | 7 => TX8 | 8 => TX9 | 9 => TJ0 | _ => TJ4
def clC (ci : Nat) : String := match ci with
  | 0 => RX0 | 1 => RX1 | 2 => RX2 | 3 => RX4 | 4 => RX5 | 5 => RX6 | 6 => RX7 | 7 => RX8 | 8 => RX9 | 9 => RJ0 | _ => RJ4
def clOK (ci : Nat) : Prop := vwCl[ci]? = some (clC ci, clT ci, clN ci) ∧ (∀ w ∈ u_ws (clC ci) (clT ci) (clN ci), w ∈ lw_t2) ∧ (∀ k, k < clN ci → parseFieldDescriptor (clT ci k).2.2.1 = some (clTy ci k)) ∧ (∀ a, a < clN ci → ∀ b, b < clN ci → a ≠ b → (clT ci a).2.1 ≠ (clT ci b).2.1)
theorem clOK_0 : clOK 0 := ⟨rfl, by decide +kernel, tyX0_ok, nmX0⟩
theorem clOK_1 : clOK 1 := ⟨rfl, by decide +kernel, tyX1_ok, nmX1⟩
theorem clOK_2 : clOK 2 := ⟨rfl, by decide +kernel, tyX2_ok, nmX2⟩
theorem clOK_3 : clOK 3 := ⟨rfl, by decide +kernel, tyX4_ok, nmX4⟩
theorem clOK_4 : clOK 4 := ⟨rfl, by decide +kernel, tyX5_ok, nmX5⟩
theorem clOK_5 : clOK 5 := ⟨rfl, by decide +kernel, tyX6_ok, nmX6⟩
theorem clOK_6 : clOK 6 := ⟨rfl, by decide +kernel, tyX7_ok, nmX7⟩
theorem clOK_7 : clOK 7 := ⟨rfl, by decide +kernel, tyX8_ok, nmX8⟩
theorem clOK_8 : clOK 8 := ⟨rfl, by decide +kernel, tyX9_ok, nmX9⟩
theorem clOK_9 : clOK 9 := ⟨rfl, by decide +kernel, tyJ0_ok, nmJ0⟩
theorem clOK_10 : clOK 10 := ⟨rfl, by decide +kernel, tyJ4_ok, nmJ4⟩
theorem clOK_all : ∀ ci, ci < 11 → clOK ci
  | 0, _ => clOK_0 | 1, _ => clOK_1 | 2, _ => clOK_2 | 3, _ => clOK_3 | 4, _ => clOK_4 | 5, _ => clOK_5 | 6, _ => clOK_6 | 7, _ => clOK_7 | 8, _ => clOK_8 | 9, _ => clOK_9 | 10, _ => clOK_10
  | n + 11, h => by omega
/-- a place of the pool that names field k of class ci -/
def FLk (own : String) (idx ci k : Nat) : Prop := ci < 11 ∧ k < clN ci ∧ Cond.fieldLink own idx (clT ci k).1 (clT ci k).2.1 (clT ci k).2.2.1 ∈ lw_t2
def tk (ty : FieldType) : Nat := match ty with
  | .int => 0 | .boolean => 0 | .byte => 0 | .long => 1 | .object _ => 2 | .array _ => 2 | _ => 3
theorem irng_of_tk {ty : FieldType} {x : Int} (h : tk ty = 0) (hx : irng ty x) : InR x := by
  cases ty with
  | int => exact hx
  | boolean => rcases hx with rfl | rfl <;> unfold InR <;> omega
  | byte => unfold irng at hx; unfold InR; omega
  | _ => cases h
theorem ety_cls {ci k : Nat} (h : ci < 11) : ety (ci + 1) k = clTy ci k := by
  unfold ety
  rw [if_pos (by omega), Nat.add_sub_cancel]
theorem cellE_cls (G : Gl) {ci : Nat} (h : ci < 11) (len : Nat) (x : Nat → Int) (r : Nat → Nat) : cellE G (ci + 1) len x r = .inr (ci, (List.range (clN ci)).map (fun j => fval G (clTy ci j) (x j) (r j))) := by
  unfold cellE
  rw [if_pos (by omega), Nat.add_sub_cancel]
theorem fvals_at (G : Gl) {ci k : Nat} (h : k < clN ci) (x : Nat → Int) (r : Nat → Nat) : ((List.range (clN ci)).map (fun j => fval G (clTy ci j) (x j) (r j)))[k]? = some (fval G (clTy ci k) (x k) (r k)) := by
  rw [List.getElem?_map, List.getElem?_range h]; rfl
theorem fvals_set (G : Gl) {ci k : Nat} (x x' : Nat → Int) (r r' : Nat → Nat) {v : Value} (hv : v = fval G (clTy ci k) (x' k) (r' k)) (hx : ∀ j, j ≠ k → x' j = x j) (hr : ∀ j, j ≠ k → r' j = r j) :
    ((List.range (clN ci)).map (fun j => fval G (clTy ci j) (x j) (r j))).set k v = (List.range (clN ci)).map (fun j => fval G (clTy ci j) (x' j) (r' j)) := by
  apply List.ext_getElem?
  intro j
  by_cases hj : j = k
  · subst hj
    by_cases hl : j < clN ci
    · rw [List.getElem?_set_self (by simpa using hl), fvals_at G hl, hv]
    · rw [List.getElem?_eq_none (by simp; omega), List.getElem?_eq_none (by simp; omega)]
  · rw [List.getElem?_set_ne (Ne.symm hj)]
    by_cases hl : j < clN ci
    · rw [fvals_at G hl, fvals_at G hl, hx j hj, hr j hj]
    · rw [List.getElem?_eq_none (by simp; omega), List.getElem?_eq_none (by simp; omega)]
theorem tag_in {S : Sh} {a t : Nat} (h : okS S) (ht : sT S a = t + 1) : 1 ≤ a ∧ a < sN S := ⟨(h.2 a (by omega)).1, (h.2 a (by omega)).2.1⟩
theorem okI_up {S : Sh} {I : MI} {a k : Nat} {x : Int} (h : okI S I) (hx : irng (ety (sT S a) k) x) : okI S (up2 I a k x) := by
  intro b j
  by_cases hb : b = a
  · subst hb
    by_cases hj : j = k
    · subst hj; rw [up2_ss]; exact hx
    · rw [up2_sn hj]; exact h b j
  · rw [up2_n hb]; exact h b j
section PV1
variable {p : Program} {l : Launch} {e : Env} {R : Room} {s : State} {m : MethodId} {args : Array Value} {below : List Frame} {meth : Method} {c : Code} {H : Heap} {locs : List Loc} {cells slots : Nat} {Q : State → Prop}
variable {cc : ByteArray} {pc : Nat} {ls : Array Slot} {rest : List Value} {D : va_G} {cl : List vw_C} {A : Nat → Prop} {a : Nat} {tys : List (ClassId × FieldType)} {ws : va_W} {H0 : Heap}
/-- a field is written: the size of the heap stays (the kit's row, with that said) -/
theorem pv_put (hexec : p.tables.exec = Jvm.exec) (hb : c.code = cc) {own C : String} {T : u_T} {N ci index : Nat} {Ts : List Cond} (hts : ∀ w ∈ Ts, w.before args s = true) (hin : ∀ w ∈ u_ws C T N, w ∈ Ts) (ty0 : Nat → FieldType) (hty : ∀ k, k < N → parseFieldDescriptor (T k).2.2.1 = some (ty0 k)) (hnm : ∀ a, a < N → ∀ b, b < N → a ≠ b → (T a).2.1 ≠ (T b).2.1) (hown : s.vm.findClass own = some m.cls) (hK : va_K D cl tys s) (hP : va_P D cl ws H) (hD : va_D A ws) (hS0 : va_S A H0 H locs) (q0 : Nat) {fs : List Value} (he : ws[q0]? = some (a, .inr (ci, fs))) (hc : cl[ci]? = some (C, T, N)) (k : Nat) (hk : k < N) (hlink : (Cond.fieldLink own index (T k).1 (T k).2.1 (T k).2.2.1).before args s = true) (hfin : (T k).2.2.2 = false ∨ ((T k).2.2.2 = true ∧ meth.name = "<init>" ∧ (T k).1 = own)) {ty : FieldType} {v : Value} (hd : parseFieldDescriptor (T k).2.2.1 = some ty) (hn : narrow ty v = v) (hfit : fits ty v = true) (hl : k < fs.length)
    (hdg : decode cc pc = .ok (.putfield index, 3)) (kk : ∀ (H1 : Heap) (locs1 : List Loc), H1.size = H.size → va_P D cl (ws.set q0 (a, .inr (ci, fs.set k v))) H1 → va_S A H0 H1 locs1 → W p l e R s m args below meth c H1 locs1 cells slots Q (F0 m (pc + 3) ls rest)) : W p l e R s m args below meth c H locs cells slots Q (F0 m pc ls (v :: .ref a :: rest)) := by
  have hap := va_apart (own := own) hts hin ty0 hty hnm hK hc
  obtain ⟨r, h1, cell, q1, q2, q3, q4⟩ := hP q0 _ he
  have hr : r = (C, T, N) := Option.some.inj (h1.symm.trans hc)
  subst hr
  obtain ⟨hS, hfc, kC, hkC, hkind⟩ := hK.1 ci _ hc
  obtain ⟨cf, kf, fi, f, hi, hsl⟩ := hS k hk
  have hlay := hts _ (hin _ (u_in_lay hk))
  unfold u_lay at hlay
  have hst := (u_facts hfc hkC (u_lays hts hin hk) hi).1
  rcases hfin with hfin | ⟨hfin, hin2, hdecl⟩
  · rw [if_neg (by rw [hfin]; decide)] at hlay
    have h6 := u_store hfc hkC hkind hlay hi hd hn hfit
    refine W.putK hexec hb (f := f) ⟨hown, hlink, ⟨_, _, _, hi⟩, hst⟩ (by rw [q2]; exact h6) q1 q3 (by rw [hsl]; exact k2_hasslot (q4 k hk)) rfl rfl hdg fun H' e1 e2 e3 => ?_
    rw [hsl] at e1 ⊢
    exact kk H' _ e2 (hP.set hD he ⟨_, hc, t_OB.to (V := updV (vp_V fs) k v) ⟨_, e1, q2, q3, t_set q4 hap hk v⟩ (fun j _ => vp_updV_set hl v j)⟩ e3) (hS0.put e2 e3 (hD.2 q0 _ he))
  · rw [if_pos hfin] at hlay
    have hcf : m.cls = cf := by
      obtain ⟨_, _, c', _, _, _, -, -, hf', -, -, -, hown2, -⟩ := Cond.laysFinal_spec hlay
      have e1 : c' = cf := by have := hi.symm.trans hf'; simp at this; exact this.1.symm
      rw [hdecl] at hown2
      rw [← e1]; exact Option.some.inj (hown.symm.trans hown2)
    have h6 := u_fits hfc hkC hkind (Or.inr hlay) hi hd hn hfit
    refine W.putFinK hexec hb hown hlink hi hst hcf hin2 (by rw [q2]; exact h6) q1 q3 (by rw [hsl]; exact k2_hasslot (q4 k hk)) rfl rfl hdg fun H' e1 e2 e3 => ?_
    rw [hsl] at e1 ⊢
    exact kk H' _ e2 (hP.set hD he ⟨_, hc, t_OB.to (V := updV (vp_V fs) k v) ⟨_, e1, q2, q3, t_set q4 hap hk v⟩ (fun j _ => vp_updV_set hl v j)⟩ e3) (hS0.put e2 e3 (hD.2 q0 _ he))
end PV1
section FL
variable {G : Gl} {μ : MB} {pc pc2 : Nat} {ls ls2 : Lc} {st st2 : List PV} {S S2 : Sh} {I I2 : MI} {R R2 : MR} {Q : PQ} {idx ci f a : Nat}
theorem e_get {v : PV} (hd : decode (mC μ) pc = .ok (.getfield idx, 3)) (hf : FLk (mO μ) idx ci f) (ht : sT S a = ci + 1) (hv : mv G v = fval G (clTy ci f) (I a f) (R a f)) (hok : okI S I → vok v) (k : E G μ (pc + 3) ls (v :: st) S I R Q) : E G μ pc ls (vR a :: st) S I R Q := by
  refine e_go (fun o _ h => vok_cons (hok o) (vok_tl h)) (fun p l e Rm s m args below meth c Hm locs cells slots lsM Z o1 _ _ _ hC hx hb hF kk => ?_) k
  obtain ⟨h1, h2⟩ := tag_in o1 ht
  obtain ⟨hci, hfk, hl⟩ := hf
  obtain ⟨hc, hin, hty, hnm⟩ := clOK_all ci hci
  have hw := wsOf_get G I R h1 h2
  rw [ht, cellE_cls G hci] at hw
  rw [List.map_cons] at kk
  rw [List.map_cons, mv_ref G h1]
  exact va_get (ref := (clT ci f).1) hx hb hC.2.2.2.2.1 hin hC.2.2.2.1 hC.2.2.2.2.2.2.2.2.1 hF.2.1.1 (a - 1) hw hc f hfk (hC.2.2.2.2.1 _ hl) (fun x h => h) (by rw [fvals_at G hfk, ← hv]) hd kk
theorem e_getI (hd : decode (mC μ) pc = .ok (.getfield idx, 3)) (hf : FLk (mO μ) idx ci f) (hk : tk (clTy ci f) = 0) (ht : sT S a = ci + 1) (k : E G μ (pc + 3) ls (vI (I a f) :: st) S I R Q) : E G μ pc ls (vR a :: st) S I R Q := by
  refine e_get (v := vI (I a f)) hd hf ht ?_ (fun o => ?_) k
  · generalize clTy ci f = ty at hk
    cases ty <;> first | rfl | cases hk
  · have := o a f
    rw [ht, ety_cls hf.1] at this
    exact irng_of_tk hk this
theorem e_getL (hd : decode (mC μ) pc = .ok (.getfield idx, 3)) (hf : FLk (mO μ) idx ci f) (hk : clTy ci f = .long) (ht : sT S a = ci + 1) (k : E G μ (pc + 3) ls (vL (I a f) :: st) S I R Q) : E G μ pc ls (vR a :: st) S I R Q := by
  refine e_get (v := vL (I a f)) hd hf ht (by rw [hk]; rfl) (fun o => ?_) k
  have := o a f
  rw [ht, ety_cls hf.1, hk] at this
  exact this
theorem e_getR (hd : decode (mC μ) pc = .ok (.getfield idx, 3)) (hf : FLk (mO μ) idx ci f) (hk : tk (clTy ci f) = 2) (ht : sT S a = ci + 1) (k : E G μ (pc + 3) ls (vR (R a f) :: st) S I R Q) : E G μ pc ls (vR a :: st) S I R Q := by
  refine e_get (v := vR (R a f)) hd hf ht ?_ (fun _ => trivial) k
  generalize clTy ci f = ty at hk
  cases ty <;> first | rfl | cases hk
abbrev FinOK (μ : MB) (ci f : Nat) : Prop := (clT ci f).2.2.2 = false ∨ ((clT ci f).2.2.2 = true ∧ (mY μ).name = "<init>" ∧ (clT ci f).1 = mO μ)
theorem e_put {v : PV} (hd : decode (mC μ) pc = .ok (.putfield idx, 3)) (hf : FLk (mO μ) idx ci f) (hfin : FinOK μ ci f) (ht : sT S a = ci + 1)
    (hI : ∀ b, b ≠ a → I2 b = I b) (hR : ∀ b, b ≠ a → R2 b = R b) (hIa : ∀ j, j ≠ f → I2 a j = I a j) (hRa : ∀ j, j ≠ f → R2 a j = R a j)
    (hv : mv G v = fval G (clTy ci f) (I2 a f) (R2 a f)) (hok : okI S I → vok v → okI S I2) (hn : okI S I → vok v → narrow (clTy ci f) (mv G v) = mv G v ∧ fits (clTy ci f) (mv G v) = true)
    (k : E G μ (pc + 3) ls st S I2 R2 Q) : E G μ pc ls (v :: vR a :: st) S I R Q := by
  refine e_step (Nat.le_refl _) (Nat.le_refl _) (fun o1 o2 o3 o4 => ⟨o1, hok o2 (vok_hd o4), o3, vok_tl (vok_tl o4)⟩) ?_ k
  intro p l e Rm s m args below meth c Hm locs cells slots lsM Z o1 o2 o3 o4 hC hc hs hF kk
  obtain ⟨h1, h2⟩ := tag_in o1 ht
  obtain ⟨hci, hfk, hl⟩ := hf
  obtain ⟨hcl, hin, hty, hnm⟩ := clOK_all ci hci
  have hw := wsOf_get G I R h1 h2
  rw [ht, cellE_cls G hci] at hw
  rw [List.map_cons, List.map_cons, mv_ref G h1]
  have hset := wsOf_set G (S := S) (I := I) (I' := I2) (R := R) (R' := R2) h1 h2 hI hR (e := .inr (ci, (List.range (clN ci)).map (fun j => fval G (clTy ci j) (I2 a j) (R2 a j)))) (by rw [ht, cellE_cls G hci])
  obtain ⟨n1, n2⟩ := hn o2 (vok_hd o4)
  have hfs := fvals_set G (ci := ci) (k := f) (I a) (I2 a) (R a) (R2 a) hv hIa hRa
  refine pv_put hC.1 hC.2.1 hC.2.2.2.2.1 hin (clTy ci) hty hnm hC.2.2.2.1 hC.2.2.2.2.2.2.2.2.1 hF.2.1.1 (wsOf_D G S I R) hF.2.2 (a - 1) hw hcl f hfk (hC.2.2.2.2.1 _ hl) ?_ (hty f hfk) n1 n2 (by simpa using hfk) hd (fun H1 locs1 g3 g1 g2 => ?_)
  · rcases hfin with h | ⟨q1, q2, q3⟩
    · exact Or.inl h
    · exact Or.inr ⟨q1, hC.2.2.2.2.2.2.2.1 q2, q3⟩
  · rw [hfs, hset] at g1
    have := kk H1 locs1 lsM ⟨hF.1, ⟨g1, g3.trans hF.2.1.2⟩, g2⟩
    simpa using this
theorem e_putI {x : Int} (hd : decode (mC μ) pc = .ok (.putfield idx, 3)) (hf : FLk (mO μ) idx ci f) (hk : clTy ci f = .int) (hfin : FinOK μ ci f) (ht : sT S a = ci + 1) (k : E G μ (pc + 3) ls st S (up2 I a f x) R Q) : E G μ pc ls (vI x :: vR a :: st) S I R Q := by
  refine e_put hd hf hfin ht (fun b h => up2_n h) (fun _ _ => rfl) (fun j h => up2_sn h) (fun _ _ => rfl) ?_ (fun o v => ?_) (fun o v => ?_) k
  · rw [hk, up2_ss]; rfl
  · exact okI_up o (by rw [ht, ety_cls hf.1, hk]; exact v)
  · rw [hk]; exact ⟨rfl, rfl⟩
theorem e_putB {x : Int} (hd : decode (mC μ) pc = .ok (.putfield idx, 3)) (hf : FLk (mO μ) idx ci f) (hk : clTy ci f = .byte) (hfin : FinOK μ ci f) (ht : sT S a = ci + 1) (hx : x = 0 ∨ x = 1) (k : E G μ (pc + 3) ls st S (up2 I a f x) R Q) : E G μ pc ls (vI x :: vR a :: st) S I R Q := by
  refine e_put hd hf hfin ht (fun b h => up2_n h) (fun _ _ => rfl) (fun j h => up2_sn h) (fun _ _ => rfl) ?_ (fun o v => ?_) (fun o v => ?_) k
  · rw [hk, up2_ss]; rfl
  · exact okI_up o (by rw [ht, ety_cls hf.1, hk]; show -128 ≤ x ∧ x < 128; omega)
  · rw [hk]; rcases hx with rfl | rfl <;> exact ⟨rfl, rfl⟩
theorem e_putZ {x : Int} (hd : decode (mC μ) pc = .ok (.putfield idx, 3)) (hf : FLk (mO μ) idx ci f) (hk : clTy ci f = .boolean) (hfin : FinOK μ ci f) (ht : sT S a = ci + 1) (hx : x = 0 ∨ x = 1) (k : E G μ (pc + 3) ls st S (up2 I a f x) R Q) : E G μ pc ls (vI x :: vR a :: st) S I R Q := by
  refine e_put hd hf hfin ht (fun b h => up2_n h) (fun _ _ => rfl) (fun j h => up2_sn h) (fun _ _ => rfl) ?_ (fun o v => ?_) (fun o v => ?_) k
  · rw [hk, up2_ss]; rfl
  · exact okI_up o (by rw [ht, ety_cls hf.1, hk]; exact hx)
  · rw [hk]; rcases hx with rfl | rfl <;> exact ⟨rfl, rfl⟩
theorem e_putL {x : Int} (hd : decode (mC μ) pc = .ok (.putfield idx, 3)) (hf : FLk (mO μ) idx ci f) (hk : clTy ci f = .long) (hfin : FinOK μ ci f) (ht : sT S a = ci + 1) (k : E G μ (pc + 3) ls st S (up2 I a f x) R Q) : E G μ pc ls (vL x :: vR a :: st) S I R Q := by
  refine e_put hd hf hfin ht (fun b h => up2_n h) (fun _ _ => rfl) (fun j h => up2_sn h) (fun _ _ => rfl) ?_ (fun o v => ?_) (fun o v => ?_) k
  · rw [hk, up2_ss]; rfl
  · exact okI_up o (by rw [ht, ety_cls hf.1, hk]; exact v)
  · rw [hk]; exact ⟨rfl, rfl⟩
theorem e_putR {r : Nat} (hd : decode (mC μ) pc = .ok (.putfield idx, 3)) (hf : FLk (mO μ) idx ci f) (hk : tk (clTy ci f) = 2) (hfin : FinOK μ ci f) (ht : sT S a = ci + 1) (k : E G μ (pc + 3) ls st S I (up2 R a f r) Q) : E G μ pc ls (vR r :: vR a :: st) S I R Q := by
  refine e_put hd hf hfin ht (fun _ _ => rfl) (fun b h => up2_n h) (fun _ _ => rfl) (fun j h => up2_sn h) ?_ (fun o v => o) (fun o v => ?_) k
  · rw [up2_ss]
    generalize clTy ci f = ty at hk
    cases ty <;> first | rfl | cases hk
  · generalize clTy ci f = ty at hk
    cases ty <;> first | (cases r <;> exact ⟨rfl, rfl⟩) | cases hk
end FL
end
section
/-! ===== THE WALK: arrays, new cells ===== -/
def gC (G : Gl) (t : Nat) : ClassId := ((gT G).getD (t - 21) (0, .int)).1
theorem cellE_int (G : Gl) {t : Nat} (h : 21 ≤ t) (h2 : t ≤ 23) (len : Nat) (x : Nat → Int) (r : Nat → Nat) : cellE G t len x r = .inl (gC G t, len, .inl (fun j => Int32.ofInt (x j))) := by
  unfold cellE gC
  rw [if_neg (by omega), if_pos h2]
theorem cellE_ref (G : Gl) {t : Nat} (h : 24 ≤ t) (len : Nat) (x : Nat → Int) (r : Nat → Nat) : cellE G t len x r = .inl (gC G t, len, .inr (.inr (.inr (.inr (fun j => rvo G (r j)))))) := by
  unfold cellE gC
  rw [if_neg (by omega), if_neg (by omega)]
theorem gT_at {G : Gl} (h : (gT G).map Prod.snd = atyL) {t : Nat} {ty : FieldType} (hi : atyL[t - 21]? = some ty) : (gT G)[t - 21]? = some (gC G t, ty) := by
  rw [← h, List.getElem?_map] at hi
  cases hg : (gT G)[t - 21]? with
  | none => rw [hg] at hi; cases hi
  | some q =>
    rw [hg] at hi
    unfold gC
    rw [List.getD_eq_getElem?_getD, hg]
    cases Option.some.inj hi
    rfl
theorem in_of {i : Int} {n : Nat} (hi : InR i) (h : 0 ≤ i ∧ i < (n : Int)) : vp_in (Int32.ofInt i) n := vp_in_iff.mpr (by rw [o32 hi]; exact h)
theorem cl_of {i : Int} (hi : InR i) : (Int32.ofInt i).toNatClampNeg = i.toNat := Int32.toNatClampNeg_ofInt_of_le (by have := hi.1; omega) (by have := hi.2; omega)
section AR
variable {G : Gl} {μ : MB} {pc pc2 : Nat} {ls ls2 : Lc} {st st2 : List PV} {S S2 : Sh} {I I2 : MI} {R R2 : MR} {Q : PQ} {idx ci f a : Nat} {i x : Int}
theorem e_iald (hd : decode (mC μ) pc = .ok (.iaload, 1)) (ht : sT S a = 21) (hi : 0 ≤ i ∧ i < (sL S a : Int)) (k : E G μ (pc + 1) ls (vI (I a i.toNat) :: st) S I R Q) : E G μ pc ls (vI i :: vR a :: st) S I R Q := by
  refine e_go (fun o _ h => vok_cons (v := vI _) (by have := o a i.toNat; rw [ht] at this; exact this) (vok_tl (vok_tl h))) (fun p l e Rm s m args below meth c Hm locs cells slots lsM Z o1 _ _ o4 hC hx hb hF kk => ?_) k
  obtain ⟨h1, h2⟩ := tag_in (t := 20) o1 ht
  have hw := wsOf_get G I R h1 h2
  rw [ht, cellE_int G (by omega) (by omega)] at hw
  rw [List.map_cons] at kk
  rw [List.map_cons, List.map_cons, mv_ref G h1]
  refine va_iald hx hb hC.2.2.2.2.2.2.2.2.1 hF.2.1.1 (a - 1) 0 hw (gT_at (t := 21) hC.2.2.2.2.2.2.2.2.2.1 rfl) (in_of (vok_hd o4) hi) hd ?_
  rw [cl_of (vok_hd o4)]
  exact kk
theorem e_bald (hd : decode (mC μ) pc = .ok (.baload, 1)) (ht : sT S a = 22) (hi : 0 ≤ i ∧ i < (sL S a : Int)) (k : E G μ (pc + 1) ls (vI (I a i.toNat) :: st) S I R Q) : E G μ pc ls (vI i :: vR a :: st) S I R Q := by
  refine e_go (fun o _ h => vok_cons (v := vI _) (by have := o a i.toNat; rw [ht] at this; have : -128 ≤ I a i.toNat ∧ I a i.toNat < 128 := this; show InR _; unfold InR; omega) (vok_tl (vok_tl h))) (fun p l e Rm s m args below meth c Hm locs cells slots lsM Z o1 _ _ o4 hC hx hb hF kk => ?_) k
  obtain ⟨h1, h2⟩ := tag_in (t := 21) o1 ht
  have hw := wsOf_get G I R h1 h2
  rw [ht, cellE_int G (by omega) (by omega)] at hw
  rw [List.map_cons] at kk
  rw [List.map_cons, List.map_cons, mv_ref G h1]
  refine va_bald hx hb hC.2.2.2.2.2.2.2.2.1 hF.2.1.1 (a - 1) 1 hw (gT_at (t := 22) hC.2.2.2.2.2.2.2.2.2.1 rfl) (in_of (vok_hd o4) hi) hd ?_
  rw [cl_of (vok_hd o4)]
  exact kk
theorem e_alen (hd : decode (mC μ) pc = .ok (.arraylength, 1)) (ht : 21 ≤ sT S a) (k : E G μ (pc + 1) ls (vI (sL S a : Int) :: st) S I R Q) : E G μ pc ls (vR a :: st) S I R Q := by
  refine E.ok (fun o1 _ _ _ => ?_)
  refine e_go (fun _ _ h => vok_cons (v := vI _) (by have := (o1.2 a (by omega)).2.2.2; show InR _; unfold InR; omega) (vok_tl h)) (fun p l e Rm s m args below meth c Hm locs cells slots lsM Z o1 _ _ o4 hC hx hb hF kk => ?_) k
  obtain ⟨h1, h2, h3, h4⟩ := o1.2 a (by omega)
  have hw := wsOf_get G I R h1 h2
  rw [List.map_cons] at kk
  rw [List.map_cons, mv_ref G h1]
  have hc : ∃ z : vp_A, cellE G (sT S a) (sL S a) (I a) (R a) = .inl (gC G (sT S a), z) ∧ z.1 = sL S a := by
    by_cases h : sT S a ≤ 23
    · exact ⟨_, cellE_int G ht h _ _ _, rfl⟩
    · exact ⟨_, cellE_ref G (by omega) _ _ _, rfl⟩
  obtain ⟨z, hz, hz1⟩ := hc
  rw [hz] at hw
  have hty : ∃ ty, atyL[sT S a - 21]? = some ty := by
    have : sT S a - 21 < atyL.length := by show _ < 7; omega
    exact ⟨_, List.getElem?_eq_getElem this⟩
  obtain ⟨ty, hty⟩ := hty
  refine va_alen hx hb hC.2.2.2.2.2.2.2.2.1 hF.2.1.1 (a - 1) (sT S a - 21) hw (gT_at hC.2.2.2.2.2.2.2.2.2.1 hty) (v := Int32.ofInt (sL S a : Int)) (by rw [hz1]; rfl) hd kk
theorem e_aald {t : Nat} (hd : decode (mC μ) pc = .ok (.aaload, 1)) (ht : sT S a = t) (ht1 : 24 ≤ t) (ht2 : t ≤ 27) (hi : 0 ≤ i ∧ i < (sL S a : Int)) (k : E G μ (pc + 1) ls (vR (R a i.toNat) :: st) S I R Q) : E G μ pc ls (vI i :: vR a :: st) S I R Q := by
  refine e_go (fun o _ h => vok_cons (v := vR _) trivial (vok_tl (vok_tl h))) (fun p l e Rm s m args below meth c Hm locs cells slots lsM Z o1 _ _ o4 hC hx hb hF kk => ?_) k
  subst ht
  obtain ⟨h1, h2, -⟩ := o1.2 a (by omega)
  have hw := wsOf_get G I R h1 h2
  rw [cellE_ref G ht1] at hw
  rw [List.map_cons] at kk
  rw [List.map_cons, List.map_cons, mv_ref G h1]
  have hty : ∃ ty, atyL[sT S a - 21]? = some ty ∧ ty.isReference = true := by
    have : sT S a = 24 ∨ sT S a = 25 ∨ sT S a = 26 ∨ sT S a = 27 := by omega
    rcases this with h | h | h | h <;> rw [h] <;> exact ⟨_, rfl, rfl⟩
  obtain ⟨ty, hty, href⟩ := hty
  have hcell : Hm[gB G + (a - 1)]? = some (vp_cell _ _) := hF.2.1.1 (a - 1) _ hw
  rw [vp_cell_q] at hcell
  have hin := in_of (vok_hd o4) hi
  refine W.aald hx hb hcell ((hC.2.2.2.2.2.2.2.2.1.2 _ _ (gT_at hC.2.2.2.2.2.2.2.2.2.1 hty)).1 _ _) href (fun q => by cases q) (by rw [arrV_size]; exact hin) (v := mv G (vR (R a i.toNat))) ?_ rfl rfl hd kk
  rw [arrV_read _ _ (by rw [cl_of (vok_hd o4)]; omega), cl_of (vok_hd o4), rvo_rf]
/-- an element of whole numbers is written -/
theorem e_astI {t : Nat} {ty : FieldType} {ins : Instr} (ht : sT S a = t) (ht1 : 21 ≤ t) (ht2 : t ≤ 23) (hi : 0 ≤ i ∧ i < (sL S a : Int)) (hty : atyL[t - 21]? = some ty) (hr : InR i → InR x → irng (ety t i.toNat) x)
    (h : ∀ (p : Program) (l : Launch) (e : Env) (Rm : Room) (s : State) (m : MethodId) (args : Array Value) (below : List Frame) (meth : Method) (c : Code) (Hm : Heap) (locs : List Loc) (cells slots : Nat) (lsM : Array Slot) (Z : State → Prop) (cell : Cell) (aM : Addr) (j : Int32) (rest : List Value),
      p.tables.exec = Jvm.exec → c.code = mC μ → Hm[aM]? = some cell → s.isArrayOf cell ty → cell.vm ≠ .unknown → ¬ (j < 0 ∨ cell.slots.size ≤ j.toNatClampNeg) →
      (∀ H' : Heap, H'[aM]? = some (cell.setSlot j.toNatClampNeg (.int (Int32.ofInt x))) → H'.size = Hm.size → (∀ q, q ≠ aM → H'[q]? = Hm[q]?) → W p l e Rm s m args below meth c H' (locs ++ [⟨aM, j.toNatClampNeg⟩]) cells slots Z (F0 m (pc + 1) lsM rest)) →
      W p l e Rm s m args below meth c Hm locs cells slots Z (F0 m pc lsM (.int (Int32.ofInt x) :: .int j :: .ref aM :: rest)))
    (k : E G μ (pc + 1) ls st S (up2 I a i.toNat x) R Q) : E G μ pc ls (vI x :: vI i :: vR a :: st) S I R Q := by
  refine e_step (Nat.le_refl _) (Nat.le_refl _) (fun o1 o2 o3 o4 => ⟨o1, okI_up o2 (by rw [ht]; exact hr (vok_hd (vok_tl o4)) (vok_hd o4)), o3, vok_tl (vok_tl (vok_tl o4))⟩) ?_ k
  intro p l e Rm s m args below meth c Hm locs cells slots lsM Z o1 o2 o3 o4 hC hc hs hF kk
  obtain ⟨h1, h2, -⟩ := o1.2 a (by omega)
  have hw := wsOf_get G I R h1 h2
  rw [ht, cellE_int G ht1 ht2] at hw
  rw [List.map_cons, List.map_cons, List.map_cons, mv_ref G h1]
  have hii : InR i := vok_hd (vok_tl o4)
  have hin := in_of hii hi
  have hset := wsOf_set G (S := S) (I := I) (I' := up2 I a i.toNat x) (R := R) (R' := R) h1 h2 (fun b hb => up2_n hb) (fun _ _ => rfl) (e := .inl (gC G t, sL S a, .inl (fun j => Int32.ofInt (up2 I a i.toNat x a j)))) (by rw [ht, cellE_int G ht1 ht2])
  have hcell : Hm[gB G + (a - 1)]? = some (vp_cell _ _) := hF.2.1.1 (a - 1) _ hw
  refine h p l e Rm s m args below meth c Hm locs cells slots lsM Z _ (gB G + (a - 1)) (Int32.ofInt i) _ hC.1 hC.2.1 hcell ((hC.2.2.2.2.2.2.2.2.1.2 _ _ (gT_at hC.2.2.2.2.2.2.2.2.2.1 hty)).1 _ (fun j => .int (Int32.ofInt (I a j)))) (fun q => by cases q) (by show ¬ (_ ∨ (arrV _ _ _).slots.size ≤ _); rw [arrV_size]; exact hin) fun H1 e1 z oq => ?_
  have hP := hF.2.1.1.set (wsOf_D G S I R) hw (e := .inl (gC G t, sL S a, .inl (fun j => Int32.ofInt (up2 I a i.toNat x a j)))) (H1 := H1) (by
    show H1[_]? = some (vp_cell _ _)
    rw [e1, vp_cell_i, vp_cell_i, arrV_store, cl_of hii]
    congr 2
    funext q
    by_cases hq : q = i.toNat
    · subst hq
      simp [updV, up2_ss]
    · simp [updV, hq, up2_sn hq]) oq
  rw [hset] at hP
  have hS2 := hF.2.2.put (k := (Int32.ofInt i).toNatClampNeg) z oq (show gB G ≤ gB G + (a - 1) by omega)
  have := kk H1 _ lsM ⟨hF.1, ⟨hP, z.trans hF.2.1.2⟩, hS2⟩
  simpa using this
theorem e_iast (hd : decode (mC μ) pc = .ok (.iastore, 1)) (ht : sT S a = 21) (hi : 0 ≤ i ∧ i < (sL S a : Int)) (k : E G μ (pc + 1) ls st S (up2 I a i.toNat x) R Q) : E G μ pc ls (vI x :: vI i :: vR a :: st) S I R Q :=
  e_astI (ins := .iastore) ht (by omega) (by omega) hi rfl (fun _ h => h) (fun p l e Rm s m args below meth c Hm locs cells slots lsM Z cell aM j rest hx hb h1 h2 h3 h4 kk => W.iast hx hb h1 h2 h3 h4 rfl rfl hd kk) k
theorem nar_b {x : Int} (h : -128 ≤ x ∧ x < 128) : narrow .byte (.int (Int32.ofInt x)) = .int (Int32.ofInt x) := by
  show Value.int _ = _
  congr 1
  apply Int32.toInt_inj.mp
  have : (Int32.ofInt x).toInt = x := o32 (by unfold InR; omega)
  simp only [Int32.toInt_toInt8, Int8.toInt_toInt32, this]
  exact Int.bmod_eq_of_le (by omega) (by omega)
theorem e_bast (hd : decode (mC μ) pc = .ok (.bastore, 1)) (ht : sT S a = 22) (hi : 0 ≤ i ∧ i < (sL S a : Int)) (hx : -128 ≤ x ∧ x < 128) (k : E G μ (pc + 1) ls st S (up2 I a i.toNat x) R Q) : E G μ pc ls (vI x :: vI i :: vR a :: st) S I R Q :=
  e_astI (ins := .bastore) ht (by omega) (by omega) hi rfl (fun _ _ => hx) (fun p l e Rm s m args below meth c Hm locs cells slots lsM Z cell aM j rest hx1 hb h1 h2 h3 h4 kk => W.bast hx1 hb h1 h2 h3 h4 rfl rfl hd (by rw [nar_b hx]; exact kk)) k
theorem e_aast {t r : Nat} (hd : decode (mC μ) pc = .ok (.aastore, 1)) (ht : sT S a = t) (htr : (t = 24 ∧ sT S r = 5) ∨ (t = 25 ∧ sT S r = 2) ∨ (t = 26 ∧ sT S r = 3)) (hi : 0 ≤ i ∧ i < (sL S a : Int)) (k : E G μ (pc + 1) ls st S I (up2 R a i.toNat r) Q) : E G μ pc ls (vR r :: vI i :: vR a :: st) S I R Q := by
  refine e_step (Nat.le_refl _) (Nat.le_refl _) (fun o1 o2 o3 o4 => ⟨o1, o2, o3, vok_tl (vok_tl (vok_tl o4))⟩) ?_ k
  intro p l e Rm s m args below meth c Hm locs cells slots lsM Z o1 o2 o3 o4 hC hc hs hF kk
  have hci : ∃ ci, ci < 11 ∧ sT S r = ci + 1 ∧ atyL[t - 21]? = some (.object (clC ci)) := by
    rcases htr with ⟨rfl, h⟩ | ⟨rfl, h⟩ | ⟨rfl, h⟩
    · exact ⟨4, by omega, h, rfl⟩
    · exact ⟨1, by omega, h, rfl⟩
    · exact ⟨2, by omega, h, rfl⟩
  obtain ⟨ci, hci, htag, hty⟩ := hci
  obtain ⟨h1, h2, -⟩ := o1.2 a (by omega)
  obtain ⟨h3, h4⟩ := tag_in o1 htag
  have hw := wsOf_get G I R h1 h2
  rw [ht, cellE_ref G (by omega)] at hw
  have hv := wsOf_get G I R h3 h4
  rw [htag, cellE_cls G hci] at hv
  rw [List.map_cons, List.map_cons, List.map_cons, mv_ref G h1, mv_ref G h3]
  have hii : InR i := vok_hd (vok_tl o4)
  have hin := in_of hii hi
  have hset := wsOf_set G (S := S) (I := I) (I' := I) (R := R) (R' := up2 R a i.toNat r) h1 h2 (fun _ _ => rfl) (fun b hb => up2_n hb) (e := .inl (gC G t, sL S a, .inr (.inr (.inr (.inr (fun j => rvo G (up2 R a i.toNat r a j))))))) (by rw [ht, cellE_ref G (by omega)])
  have hcell : Hm[gB G + (a - 1)]? = some (vp_cell _ _) := hF.2.1.1 (a - 1) _ hw
  obtain ⟨hcl, -⟩ := clOK_all ci hci
  obtain ⟨r', hr', cellV, g1, g2, g3, -⟩ := hF.2.1.1 (r - 1) _ hv
  have hK := hC.2.2.2.2.2.2.2.2.1
  have hcls := (hK.1 ci _ hcl).2
  obtain ⟨kA, comp, k1, k2, k3, -⟩ := (hK.2 _ _ (gT_at hC.2.2.2.2.2.2.2.2.2.1 hty)).2
  have hcomp : comp = (gD G).1 ci := Option.some.inj (k3.symm.trans hcls.1)
  subst hcomp
  obtain ⟨kC, hkC, -⟩ := hcls.2
  refine W.aast hC.1 hC.2.1 hcell (fun q h => by cases h) (fun h => by cases h) k1 k2 rfl hkC ⟨fun q => hin (Or.inl q), by show _ < (arrV _ _ _).slots.size; rw [arrV_size]; exact Nat.not_le.mp fun q => hin (Or.inr q)⟩ g1 (fun q h => by rw [g3] at h; cases h) (by rw [g2]; exact hkC) (by rw [g2]; exact va_assign hcls) rfl rfl hd fun H1 e1 z oq => ?_
  have hP := hF.2.1.1.set (wsOf_D G S I R) hw (e := .inl (gC G t, sL S a, .inr (.inr (.inr (.inr (fun j => rvo G (up2 R a i.toNat r a j))))))) (H1 := H1) (by
    show H1[_]? = some (vp_cell _ _)
    rw [e1, vp_cell_q, vp_cell_q, arrV_store, cl_of hii]
    refine congrArg some (congrArg (arrV _ _) (funext fun q => ?_))
    by_cases hq : q = i.toNat
    · subst hq
      simp only [updV, up2_ss, if_true, rvo_rf, mv_ref G h3]
    · simp only [updV, hq, up2_sn hq, if_false]) oq
  rw [hset] at hP
  have hS2 := hF.2.2.put (k := (Int32.ofInt i).toNatClampNeg) z oq (show gB G ≤ gB G + (a - 1) by omega)
  have := kk H1 _ lsM ⟨hF.1, ⟨hP, z.trans hF.2.1.2⟩, hS2⟩
  simpa using this
end AR
end
section
/-! ===== THE WALK: new cells, copies ===== -/
def shNew (S : Sh) (t len u : Nat) : Sh := (sN S + 1, sU S + u, up1 (sT S) (sN S) t, up1 (sL S) (sN S) len)
theorem sN_new (S : Sh) (t len u : Nat) : sN (shNew S t len u) = sN S + 1 := rfl
theorem sU_new (S : Sh) (t len u : Nat) : sU (shNew S t len u) = sU S + u := rfl
theorem sT_new (S : Sh) (t len u : Nat) : sT (shNew S t len u) = up1 (sT S) (sN S) t := rfl
theorem sL_new (S : Sh) (t len u : Nat) : sL (shNew S t len u) = up1 (sL S) (sN S) len := rfl
def mNew {α : Type} (f : Nat → Nat → α) (n : Nat) (z : α) : Nat → Nat → α := up1 f n (fun _ => z)
theorem okS_new {S : Sh} {t len u : Nat} (h : okS S) (ht : t ≤ 11 ∨ (21 ≤ t ∧ t ≤ 27)) (hl : len < 2147483648) : okS (shNew S t len u) := by
  refine ⟨by rw [sN_new]; omega, fun a ha => ?_⟩
  rw [sT_new] at ha
  rw [sN_new, sT_new, sL_new]
  by_cases e : a = sN S
  · subst e
    rw [up1_s, up1_s]
    exact ⟨h.1, by omega, ht, hl⟩
  · rw [up1_n e] at ha ⊢
    rw [up1_n e]
    have := h.2 a ha
    exact ⟨this.1, by omega, this.2.2⟩
theorem irng0 (ty : FieldType) : irng ty 0 := by
  cases ty <;> first | exact Or.inl rfl | (constructor <;> decide)
theorem okI_new {S : Sh} {I : MI} {t len u : Nat} (h : okI S I) : okI (shNew S t len u) (mNew I (sN S) 0) := by
  intro a j
  rw [sT_new]
  unfold mNew
  by_cases e : a = sN S
  · subst e
    rw [up1_s, up1_s]
    exact irng0 _
  · rw [up1_n e, up1_n e]
    exact h a j
theorem ws_new (G : Gl) {S : Sh} (I : MI) (R : MR) (t len u : Nat) (h0 : 1 ≤ sN S) : wsOf G (shNew S t len u) (mNew I (sN S) 0) (mNew R (sN S) 0) = wsOf G S I R ++ [(gB G + (sN S - 1), cellE G t len (fun _ => 0) (fun _ => 0))] := by
  have := wsOf_push G (S := S) (S' := shNew S t len u) (I := I) (I' := mNew I (sN S) 0) (R := R) (R' := mNew R (sN S) 0) h0 rfl
    (fun k hk => by rw [sT_new, up1_n (by omega)]) (fun k hk => by rw [sL_new, up1_n (by omega)]) (fun k hk => by unfold mNew; rw [up1_n (by omega)]) (fun k hk => by unfold mNew; rw [up1_n (by omega)])
  rw [this]
  unfold mNew
  rw [sT_new, sL_new, up1_s, up1_s, up1_s, up1_s]
theorem tk_lt : ∀ ci, ci < 11 → ∀ j, j < clN ci → tk (clTy ci j) < 3 := by decide +kernel
section NW
variable {G : Gl} {μ : MB} {pc pc2 : Nat} {ls ls2 : Lc} {st st2 : List PV} {S S2 : Sh} {I I2 : MI} {R R2 : MR} {Q : PQ} {idx ci f a : Nat} {i x : Int}
/-- a cell of its kind comes behind all others -/
theorem e_newC {t len u pc2 : Nat} {st0 : List PV} (hst : okV st0 → okV st) (ht : t ≤ 11 ∨ (21 ≤ t ∧ t ≤ 27)) (hl : len < 2147483648)
    (h : ∀ (p : Program) (l : Launch) (e : Env) (Rm : Room) (s : State) (m : MethodId) (args : Array Value) (below : List Frame) (meth : Method) (c : Code) (Hm : Heap) (locs : List Loc) (cells slots : Nat) (lsM : Array Slot) (Z : State → Prop),
      okV st0 → Cx G μ p Rm s m args meth c → cells + 1 ≤ Rm.cells → slots + u ≤ Rm.slots →
      (∀ H' : Heap, H'.size = Hm.size + 1 → (∀ q, q < Hm.size → H'[q]? = Hm[q]?) → va_at (gD G) vwCl (Hm.size, cellE G t len (fun _ => 0) (fun _ => 0)) H' → W p l e Rm s m args below meth c H' locs (cells + 1) (slots + u) Z (F0 m pc2 lsM (.ref Hm.size :: st.map (mv G)))) →
      W p l e Rm s m args below meth c Hm locs cells slots Z (F0 m pc lsM (st0.map (mv G))))
    (k : E G μ pc2 ls (vR (sN S) :: st) (shNew S t len u) (mNew I (sN S) 0) (mNew R (sN S) 0) Q) : E G μ pc ls st0 S I R Q := by
  refine e_step (by rw [sN_new]; omega) (by rw [sU_new]; omega) (fun o1 o2 o3 o4 => ⟨okS_new o1 ht hl, okI_new o2, o3, vok_cons (v := vR _) trivial (hst o4)⟩) ?_ k
  intro p l e Rm s m args below meth c Hm locs cells slots lsM Z o1 o2 o3 o4 hC hc hs hF kk
  rw [sN_new] at hc
  rw [sU_new] at hs
  have hsz := hF.2.1.2
  refine h p l e Rm s m args below meth c Hm locs cells slots lsM Z o4 hC (by omega) (by omega) fun H1 z1 oq hat => ?_
  have hP : va_P (gD G) vwCl (wsOf G (shNew S t len u) (mNew I (sN S) 0) (mNew R (sN S) 0)) H1 := by
    rw [ws_new G I R t len u o1.1]
    refine (hF.2.1.1.kept (fun k q hk => oq q.1 (hF.2.1.1 k q hk).lt)).app (fun k q hq => ?_)
    have hz : k < 1 := (List.getElem?_eq_some_iff.mp hq).1
    rw [show k = 0 by omega] at hq
    cases hq
    rw [← hsz]
    exact hat
  have hS2 : va_S (fun q => gB G ≤ q) s.heap H1 locs := ⟨by have := hF.2.2.1; omega, fun q h1 h2 => (oq q (Nat.lt_of_lt_of_le h1 hF.2.2.1)).trans (hF.2.2.2.1 q h1 h2), hF.2.2.2.2⟩
  have := kk H1 locs lsM ⟨hF.1, ⟨hP, by rw [sN_new, z1, hsz]; have := o1.1; omega⟩, hS2⟩
  rw [List.map_cons, mv_ref G o1.1, ← hsz, sN_new, sU_new] at this
  rw [show sN S + 1 - sN S = 1 by omega, show sU S + u - sU S = u by omega] at this
  exact this
theorem e_new (hd : decode (mC μ) pc = .ok (.new idx, 3)) (hci : ci < 11) (hw : Cond.classLink (mO μ) idx (clC ci) ∈ lw_t2 ∧ Cond.instantiable (clC ci) (clN ci) ∈ lw_t2 ∧ Cond.initialized (clC ci) ∈ lw_t2) (k : E G μ (pc + 3) ls (vR (sN S) :: st) (shNew S (ci + 1) 0 (clN ci)) (mNew I (sN S) 0) (mNew R (sN S) 0) Q) : E G μ pc ls st S I R Q := by
  refine e_newC (fun h => h) (by omega) (by omega) (fun p l e Rm s m args below meth c Hm locs cells slots lsM Z o4 hC hc hs kk => ?_) k
  obtain ⟨hcl, hin, hty, hnm⟩ := clOK_all ci hci
  have hts := hC.2.2.2.2.1
  have hKn := hC.2.2.2.2.2.2.2.2.1.1 ci _ hcl
  refine W.newcK hC.1 hC.2.1 hC.2.2.2.1 (hts _ hw.1) (hts _ hw.2.1) (hts _ hw.2.2) rfl hd hc hs hKn.2.1 rfl fun H1 kC hkC e1 z1 o1 => ?_
  refine kk H1 z1 o1 ?_
  rw [cellE_cls G hci]
  refine ⟨_, hcl, (u_born (clTy ci) hts hin hKn hkC e1 hty).to (fun j hj => ?_)⟩
  unfold vp_V
  rw [List.getD_eq_getElem?_getD, fvals_at G hj]
  have htk := tk_lt ci hci j hj
  generalize clTy ci j = ty at htk
  show defaultValue ty = fval G ty 0 0
  cases ty <;> first | rfl | exact absurd htk (by decide)
theorem tys_eq {s : State} {G : Gl} (hK : va_K (gD G) vwCl (gT G) s) (hT : (gT G).map Prod.snd = atyL) {t : Nat} {ty : FieldType} (hty : atyL[t - 21]? = some ty) {cA : ClassId} (hf : s.vm.findClass ("[" ++ ty.toString) = some cA) : cA = gC G t := by
  have h := (hK.2 _ _ (gT_at hT hty)).2
  have h2 : s.vm.findClass ("[" ++ ty.toString) = some (gC G t) := by
    cases ty with
    | object C => obtain ⟨kA, comp, -, -, -, h4⟩ := h; exact h4
    | _ => exact h
  exact Option.some.inj (hf.symm.trans h2)
theorem e_newa {t : Nat} {atype : ArrayType} {n : Nat} (hd : decode (mC μ) pc = .ok (.newarray atype, 2)) (hat : (t = 21 ∧ atype = .int) ∨ (t = 22 ∧ atype = .byte)) (hw : Cond.arrayClass (newarray.typeOf atype) ∈ lw_t2) (hx : x = (n : Int)) (hn : n ≤ 100000000)
    (k : E G μ (pc + 2) ls (vR (sN S) :: st) (shNew S t n n) (mNew I (sN S) 0) (mNew R (sN S) 0) Q) : E G μ pc ls (vI x :: st) S I R Q := by
  refine e_newC (fun h => vok_tl h) (by omega) (by omega) (fun p l e Rm s m args below meth c Hm locs cells slots lsM Z o4 hC hc hs kk => ?_) k
  have hts := hC.2.2.2.2.1
  have hxx : InR x := vok_hd o4
  have hcl : (Int32.ofInt x).toNatClampNeg = n := by rw [cl_of hxx, hx]; rfl
  have hn0 : ¬ Int32.ofInt x < 0 := by
    intro h
    rw [Int32.lt_iff_toInt_lt, o32 hxx] at h
    have : x < 0 := h
    omega
  rcases hat with ⟨rfl, rfl⟩ | ⟨rfl, rfl⟩
  · refine va_newaK hC.1 hC.2.1 (hts _ hw) rfl hd rfl (n := Int32.ofInt x) (N := n) hn0 hcl (by show n * 4 ≤ _; omega) hc hs rfl fun H1 cA e1 z1 o1 hA hNm => ?_
    refine kk H1 z1 o1 ?_
    rw [cellE_int G (by omega) (by omega), ← tys_eq (t := 21) hC.2.2.2.2.2.2.2.2.1 hC.2.2.2.2.2.2.2.2.2.1 rfl hNm]
    show H1[Hm.size]? = some (vp_cell _ _)
    rw [e1, vp_cell_i]
    rfl
  · refine va_newaK hC.1 hC.2.1 (hts _ hw) rfl hd rfl (n := Int32.ofInt x) (N := n) hn0 hcl (by show n * 1 ≤ _; omega) hc hs rfl fun H1 cA e1 z1 o1 hA hNm => ?_
    refine kk H1 z1 o1 ?_
    rw [cellE_int G (by omega) (by omega), ← tys_eq (t := 22) hC.2.2.2.2.2.2.2.2.1 hC.2.2.2.2.2.2.2.2.2.1 rfl hNm]
    show H1[Hm.size]? = some (vp_cell _ _)
    rw [e1, vp_cell_i]
    rfl
theorem e_anew {t : Nat} {C : String} {n : Nat} (hd : decode (mC μ) pc = .ok (.anewarray idx, 3)) (ht1 : 24 ≤ t) (ht2 : t ≤ 26) (hty : atyL[t - 21]? = some (.object C)) (hw : Cond.classLink (mO μ) idx C ∈ lw_t2 ∧ (C = RX5 ∨ C = RX1 ∨ C = RX2)) (hx : x = (n : Int)) (hn : n ≤ 100000000)
    (k : E G μ (pc + 3) ls (vR (sN S) :: st) (shNew S t n n) (mNew I (sN S) 0) (mNew R (sN S) 0) Q) : E G μ pc ls (vI x :: st) S I R Q := by
  refine e_newC (fun h => vok_tl h) (by omega) (by omega) (fun p l e Rm s m args below meth c Hm locs cells slots lsM Z o4 hC hc hs kk => ?_) k
  have hts := hC.2.2.2.2.1
  have hxx : InR x := vok_hd o4
  have hcl : (Int32.ofInt x).toNatClampNeg = n := by rw [cl_of hxx, hx]; rfl
  have hov : va_AO C s := by
    obtain ⟨⟨-, w1, w2, w3, -⟩, -⟩ := hC.2.2.2.2.2.2.2.2.2.2.2.2.2.2.2.2
    rcases hw.2 with rfl | rfl | rfl
    · exact w1
    · exact w2
    · exact w3
  refine W.anew hC.1 hC.2.1 hC.2.2.2.1 (hts _ hw.1) (va_AO.use hov) rfl hd (n := Int32.ofInt x) rfl ?_ (by rw [hcl]; omega) hc (by rw [hcl]; exact hs) fun cA kA comp h1 h2 h3 h4 => ?_
  · intro h
    rw [Int32.lt_iff_toInt_lt, o32 hxx] at h
    have : x < 0 := h
    omega
  · rw [hcl]
    refine kk _ (by simp) (fun q hq => by rw [Array.getElem?_push, if_neg (Nat.ne_of_lt hq)]) ?_
    rw [cellE_ref G ht1, ← tys_eq hC.2.2.2.2.2.2.2.2.1 hC.2.2.2.2.2.2.2.2.2.1 hty h1]
    show (Array.push _ _)[Hm.size]? = some (vp_cell _ _)
    rw [Array.getElem?_push_size, arrV_new, vp_cell_q]
    rfl
end NW
end
section
/-! ===== THE WALK: rows of rows, copies ===== -/
theorem mu_outer (c : ClassId) (N h0 : Nat) : ∀ i : Nat, Jvm.Free.Multi.outerC c N h0 i = arrV c N (fun j => va_rf (if j < i then some (h0 + 1 + j) else none))
  | 0 => by
    show ({ cls := c, slots := Array.replicate N .null, vm := .none } : Cell) = _
    rw [arrV_new]
    refine congrArg (arrV c N) (funext fun j => ?_)
    simp [va_rf]
  | i + 1 => by
    show (Jvm.Free.Multi.outerC c N h0 i).setSlot i (.ref (h0 + 1 + i)) = _
    rw [mu_outer c N h0 i, arrV_store]
    refine congrArg (arrV c N) (funext fun j => ?_)
    by_cases e : j = i
    · subst e
      simp [updV, va_rf]
    · by_cases h : j < i
      · simp [updV, e, h, Nat.lt_succ_of_lt h]
      · simp [updV, e, h, show ¬ j < i + 1 by omega]
def shMul (S : Sh) (n k : Nat) : Sh := (sN S + 1 + n, sU S + (n + n * k), fun a => if a = sN S then 27 else if sN S < a ∧ a ≤ sN S + n then 21 else sT S a, fun a => if a = sN S then n else if sN S < a ∧ a ≤ sN S + n then k else sL S a)
def iMul (I : MI) (N n : Nat) : MI := fun a => if N ≤ a ∧ a ≤ N + n then (fun _ => 0) else I a
def rMul (R : MR) (N n : Nat) : MR := fun a => if a = N then (fun j => if j < n then N + 1 + j else 0) else if N < a ∧ a ≤ N + n then (fun _ => 0) else R a
theorem sN_mul (S : Sh) (n k : Nat) : sN (shMul S n k) = sN S + 1 + n := rfl
theorem sU_mul (S : Sh) (n k : Nat) : sU (shMul S n k) = sU S + (n + n * k) := rfl
theorem sT_mul (S : Sh) (n k a : Nat) : sT (shMul S n k) a = if a = sN S then 27 else if sN S < a ∧ a ≤ sN S + n then 21 else sT S a := rfl
theorem sL_mul (S : Sh) (n k a : Nat) : sL (shMul S n k) a = if a = sN S then n else if sN S < a ∧ a ≤ sN S + n then k else sL S a := rfl
section ML
variable {G : Gl} {μ : MB} {pc pc2 : Nat} {ls ls2 : Lc} {st st2 : List PV} {S S2 : Sh} {I I2 : MI} {R R2 : MR} {Q : PQ} {idx ci f a : Nat} {i x y : Int}
theorem e_mna {n k : Nat} (hd : decode (mC μ) pc = .ok (.multianewarray idx 2, 4)) (hw : Cond.classLink (mO μ) idx "[[I" ∈ lw_t2 ∧ Cond.arrayClass .int ∈ lw_t2) (hx : x = (n : Int)) (hy : y = (k : Int)) (hn : n ≤ 10000) (hk : k ≤ 10000)
    (kk : E G μ (pc + 4) ls (vR (sN S) :: st) (shMul S n k) (iMul I (sN S) n) (rMul R (sN S) n) Q) : E G μ pc ls (vI y :: vI x :: st) S I R Q := by
  refine e_step (by rw [sN_mul]; omega) (by rw [sU_mul]; omega) (fun o1 o2 o3 o4 => ⟨?_, ?_, o3, vok_cons (v := vR _) trivial (vok_tl (vok_tl o4))⟩) ?_ kk
  · refine ⟨by rw [sN_mul]; omega, fun a ha => ?_⟩
    have h0 := o1.1
    rw [sT_mul] at ha
    rw [sN_mul, sT_mul, sL_mul]
    by_cases e : a = sN S
    · subst e; simp only [if_true]; omega
    · rw [if_neg e] at ha
      rw [if_neg e, if_neg e]
      by_cases h : sN S < a ∧ a ≤ sN S + n
      · rw [if_pos h, if_pos h]; omega
      · rw [if_neg h] at ha
        rw [if_neg h, if_neg h]
        have := o1.2 a ha
        omega
  · intro a j
    rw [sT_mul]
    unfold iMul
    by_cases e : sN S ≤ a ∧ a ≤ sN S + n
    · rw [if_pos e]; exact irng0 _
    · rw [if_neg e, if_neg (by omega), if_neg (by omega)]; exact o2 a j
  intro p l e Rm s m args below meth c Hm locs cells slots lsM Z o1 o2 o3 o4 hC hc hs hF kk
  have hts := hC.2.2.2.2.1
  have hK := hC.2.2.2.2.2.2.2.2.1
  have hT := hC.2.2.2.2.2.2.2.2.2.1
  have hyy : InR y := vok_hd o4
  have hxx : InR x := vok_hd (vok_tl o4)
  have hclx : (Int32.ofInt x).toNatClampNeg = n := by rw [cl_of hxx, hx]; rfl
  have hcly : (Int32.ofInt y).toNatClampNeg = k := by rw [cl_of hyy, hy]; rfl
  have hn0 : ¬ Int32.ofInt x < 0 := by
    intro h
    rw [Int32.lt_iff_toInt_lt, o32 hxx] at h
    have : x < 0 := h
    omega
  have hk0 : ¬ Int32.ofInt y < 0 := by
    intro h
    rw [Int32.lt_iff_toInt_lt, o32 hyy] at h
    have : y < 0 := h
    omega
  rw [sN_mul] at hc
  rw [sU_mul] at hs
  have hsz := hF.2.1.2
  have hN1 := o1.1
  intro T hTm Xs
  obtain ⟨vm₁, cA, comp, -, fA, fC, hO, -, X', step⟩ := Xs.multianewarray2F (ty := .int) hC.1 hC.2.2.2.1 (hts _ hw.1) hC.2.2.2.2.2.2.2.2.2.2.2.2.2.2.2.2.1.2.2.2.2.1 (hts _ hw.2) (g := F0 m pc lsM (.int (Int32.ofInt y) :: .int (Int32.ofInt x) :: st.map (mv G))) rfl (by rw [hC.2.1]; exact hd) rfl hn0 hk0 (by rw [hclx]; omega) (by rw [hcly]; show k * 4 ≤ _; omega) (by rw [hcly]; omega) rfl rfl (by rw [hclx]; omega) (by rw [hclx, hcly]; omega)
  rw [hclx, hcly] at X' step
  have e27 : cA = gC G 27 := tys_eq (t := 27) hK hT rfl fA
  have e21 : comp = gC G 21 := tys_eq (t := 21) hK hT rfl fC
  subst e27; subst e21
  generalize hFl : Jvm.Free.Multi.fill (T.setVm vm₁) (gC G 27) (gC G 21) n k (defaultValue .int) n = F at X' step
  have hTh : (T.setVm vm₁).heap = Hm := hTm
  obtain ⟨f1, f2, -, -⟩ := Jvm.Free.Multi.fill_facts (T.setVm vm₁) (gC G 27) (gC G 21) n k (defaultValue .int) n
  rw [hFl, hTh] at f1 f2
  have hold : ∀ x : Nat, x < Hm.size → F.heap[x]? = Hm[x]? := fun x hx => by
    have := Jvm.Free.Multi.fill_old (T.setVm vm₁) (gC G 27) (gC G 21) n k (defaultValue .int) (a := x) (by rw [hTh]; exact hx) n
    rw [hFl, hTh] at this
    exact this
  have hrow : ∀ j : Nat, j < n → F.heap[Hm.size + 1 + j]? = some (vp_cell (gC G 21) (k, .inl (fun _ => Int32.ofInt 0))) := fun j hj => by
    have := Jvm.Free.Multi.fill_inner (T.setVm vm₁) (gC G 27) (gC G 21) n k (defaultValue .int) n j hj
    rw [hFl, hTh] at this
    rw [this, vp_cell_i]
    show some ({ cls := gC G 21, slots := Array.replicate k _, vm := .none } : Cell) = _
    rw [arrV_new]
    rfl
  rw [mu_outer] at f2
  have hP : va_P (gD G) vwCl (wsOf G (shMul S n k) (iMul I (sN S) n) (rMul R (sN S) n)) F.heap := by
    intro q z hz
    have hl := (List.getElem?_eq_some_iff.mp hz).1
    rw [wsOf_len, sN_mul] at hl
    have hg := wsOf_get G (S := shMul S n k) (iMul I (sN S) n) (rMul R (sN S) n) (a := q + 1) (by omega) (by rw [sN_mul]; omega)
    rw [Nat.add_sub_cancel, hz] at hg
    rw [Option.some.inj hg]
    by_cases h1 : q + 1 < sN S
    · have hw2 := wsOf_get G (S := S) I R (a := q + 1) (by omega) h1
      rw [Nat.add_sub_cancel] at hw2
      have h0 := hF.2.1.1 q _ hw2
      have hlt := h0.lt
      rw [sT_mul, sL_mul, if_neg (by omega), if_neg (by omega), if_neg (by omega), if_neg (by omega), show iMul I (sN S) n (q + 1) = I (q + 1) from if_neg (by omega), show rMul R (sN S) n (q + 1) = R (q + 1) by unfold rMul; rw [if_neg (by omega), if_neg (by omega)]]
      exact h0.kept (hold _ hlt)
    · by_cases h2 : q + 1 = sN S
      · rw [sT_mul, sL_mul, if_pos h2, if_pos h2, cellE_ref G (by omega)]
        show F.heap[gB G + q]? = some (vp_cell _ _)
        rw [vp_cell_q, show gB G + q = Hm.size by omega, f2]
        refine congrArg some (congrArg (arrV _ _) (funext fun j => congrArg va_rf ?_))
        unfold rMul
        rw [if_pos h2]
        by_cases hj : j < n
        · rw [if_pos hj, if_pos hj, show sN S + 1 + j = (sN S + j) + 1 by omega]
          show some _ = some _
          congr 1
          omega
        · rw [if_neg hj, if_neg hj]; rfl
      · rw [sT_mul, sL_mul, if_neg h2, if_neg h2, if_pos (by omega), if_pos (by omega), cellE_int G (by omega) (by omega), show iMul I (sN S) n (q + 1) = (fun _ => 0) from if_pos (by omega)]
        have := hrow (q - sN S) (by omega)
        rw [show Hm.size + 1 + (q - sN S) = gB G + q by omega] at this
        exact this
  have hS2 : va_S (fun q => gB G ≤ q) s.heap F.heap locs := ⟨by rw [f1]; have := hF.2.2.1; omega, fun q h1 h2 => (hold q (Nat.lt_of_lt_of_le h1 hF.2.2.1)).trans (hF.2.2.2.1 q h1 h2), hF.2.2.2.2⟩
  have := kk F.heap locs lsM ⟨hF.1, ⟨hP, by rw [f1, hsz, sN_mul]; omega⟩, hS2⟩
  rw [List.map_cons, mv_ref G hN1, sN_mul, sU_mul, show sN S + 1 + n - sN S = 1 + n by omega, show sU S + (n + n * k) - sU S = n + n * k by omega] at this
  obtain ⟨t, a1, b1⟩ := this F rfl (by rw [show cells + (1 + n) = cells + 1 + n by omega, show slots + (n + n * k) = slots + n + n * k by omega]; exact X')
  refine ⟨t, step t ?_, b1⟩
  have e9 : T.heap.size = gB G + (sN S - 1) := by rw [hTm, hsz]
  rw [e9]
  exact a1
theorem fits_b {x : Int} (h : -128 ≤ x ∧ x < 128) : fits .byte (.int (Int32.ofInt x)) = true := by
  have e : (Int32.ofInt x).toInt = x := o32 (by unfold InR; omega)
  show ((-128 : Int32) ≤ Int32.ofInt x && Int32.ofInt x ≤ (127 : Int32)) = true
  rw [Bool.and_eq_true, decide_eq_true_iff, decide_eq_true_iff, Int32.le_iff_toInt_le, Int32.le_iff_toInt_le, e]
  exact ⟨h.1, by show x ≤ 127; omega⟩
theorem e_copy {a0 : Nat} {sp dp n : Int} (hd : decode (mC μ) pc = .ok (.invokestatic idx, 3)) (hw : Cond.methodLink (mO μ) idx arraycopyName ∈ lw_t2 ∧ Cond.native arraycopyName ∈ lw_t2 ∧ Cond.static arraycopyName ∈ lw_t2 ∧ Cond.initialized "java/lang/System" ∈ lw_t2)
    (hk : 1 ≤ mK μ ∧ 40 ≤ mW μ) (hst : (st.map pcat).sum ≤ 8) (ht0 : sT S a0 = 21) (ht : sT S a = 21) (h1 : 0 ≤ sp) (h2 : 0 ≤ dp) (h3 : 0 ≤ n) (h4 : sp + n ≤ (sL S a0 : Int)) (h5 : dp + n ≤ (sL S a : Int))
    (k : E G μ (pc + 3) ls st S (up1 I a (va_cpy (I a0) (I a) sp.toNat dp.toNat n.toNat)) R Q) : E G μ pc ls (vI n :: vI dp :: vR a :: vI sp :: vR a0 :: st) S I R Q := by
  refine e_step (Nat.le_refl _) (Nat.le_refl _) (fun o1 o2 o3 o4 => ⟨o1, ?_, o3, vok_tl (vok_tl (vok_tl (vok_tl (vok_tl o4))))⟩) ?_ k
  · intro b j
    by_cases hb : b = a
    · subst hb
      rw [up1_s]
      unfold va_cpy
      have ha0 := o2 a0 (sp.toNat + (j - dp.toNat))
      rw [ht0] at ha0
      rw [ht]
      split
      · exact ha0
      · have := o2 b j
        rw [ht] at this
        exact this
    · rw [up1_n hb]; exact o2 b j
  intro p l e Rm s m args below meth c Hm locs cells slots lsM Z o1 o2 o3 o4 hC hc hs hF kk
  have hK := hC.2.2.2.2.2.2.2.2.1
  have hT := hC.2.2.2.2.2.2.2.2.2.1
  have hts := hC.2.2.2.2.1
  have in_n : InR n := vok_hd o4
  have in_d : InR dp := vok_hd (vok_tl o4)
  have in_s : InR sp := vok_hd (vok_tl (vok_tl (vok_tl o4)))
  obtain ⟨q1, q2, -⟩ := o1.2 a (by omega)
  obtain ⟨q3, q4, -⟩ := o1.2 a0 (by omega)
  have hw1 := wsOf_get G I R q1 q2
  rw [ht, cellE_int G (by omega) (by omega)] at hw1
  have hw0 := wsOf_get G I R q3 q4
  rw [ht0, cellE_int G (by omega) (by omega)] at hw0
  simp only [List.map_cons]
  rw [mv_ref G q1, mv_ref G q3]
  have neg : ∀ {z : Int}, InR z → 0 ≤ z → ¬ Int32.ofInt z < 0 := fun {z} hz h0 h => by
    rw [Int32.lt_iff_toInt_lt, o32 hz] at h
    have : z < 0 := h
    omega
  have hcs := cl_of in_s
  have hcd := cl_of in_d
  have hcn := cl_of in_n
  have hset := wsOf_set G (S := S) (I := I) (I' := up1 I a (va_cpy (I a0) (I a) sp.toNat dp.toNat n.toNat)) (R := R) (R' := R) q1 q2 (fun b hb => up1_n hb) (fun _ _ => rfl) (e := .inl (gC G 21, sL S a, .inl (fun j => Int32.ofInt (va_cpy (I a0) (I a) sp.toNat dp.toNat n.toNat j)))) (by rw [ht, cellE_int G (by omega) (by omega), up1_s])
  have hc0 : Hm[gB G + (a0 - 1)]? = some (vp_cell (gC G 21) (sL S a0, .inl (fun j => Int32.ofInt (I a0 j)))) := hF.2.1.1 _ _ hw0
  have hc1 : Hm[gB G + (a - 1)]? = some (vp_cell (gC G 21) (sL S a, .inl (fun j => Int32.ofInt (I a j)))) := hF.2.1.1 _ _ hw1
  have htyp := gT_at (t := 21) hT rfl
  obtain ⟨-, k0, hk0, cm0, hkk0⟩ := (hK.2 _ _ htyp).1 (sL S a0) (fun j => .int (Int32.ofInt (I a0 j)))
  obtain ⟨-, k1, hk1, cm1, hkk1⟩ := (hK.2 _ _ htyp).1 (sL S a) (fun j => .int (Int32.ofInt (I a j)))
  intro T hTm X
  obtain ⟨vm', X', step⟩ := X.arraycopy hC.1 hC.2.2.2.1 (hts _ hw.1) (hts _ hw.2.1) (hts _ hw.2.2.1) (hts _ hw.2.2.2) (src := gB G + (a0 - 1)) (dst := gB G + (a - 1)) (cs := vp_cell (gC G 21) (sL S a0, .inl (fun j => Int32.ofInt (I a0 j)))) (cd := vp_cell (gC G 21) (sL S a, .inl (fun j => Int32.ofInt (I a j)))) (srcPos := Int32.ofInt sp) (destPos := Int32.ofInt dp) (n := Int32.ofInt n) (by rw [hTm]; exact hc0) (by rw [hTm]; exact hc1)
    (fun _ h => by cases h) (fun _ h => by cases h) (fun h => by cases h) (fun h => by cases h) hk0 hk1 hkk0 hkk1 (by simp [refKind]) (neg in_s h1) (neg in_d h2) (neg in_n h3)
    (by rw [o32 in_s, o32 in_n]; show ¬ _ > ((arrV (gC G 21) (sL S a0) (fun j => .int (Int32.ofInt (I a0 j)))).slots.size : Int); rw [arrV_size]; omega)
    (by rw [o32 in_d, o32 in_n]; show ¬ _ > ((arrV (gC G 21) (sL S a) (fun j => .int (Int32.ofInt (I a j)))).slots.size : Int); rw [arrV_size]; omega)
    (fun vm₁ _ i hi => by
      rw [hcn] at hi
      have e : (vp_cell (gC G 21) (sL S a0, .inl (fun j => Int32.ofInt (I a0 j)))).slots.getD ((Int32.ofInt sp).toNatClampNeg + i) .null = .int (Int32.ofInt (I a0 (sp.toNat + i))) := by
        show (arrV (gC G 21) (sL S a0) (fun j => .int (Int32.ofInt (I a0 j)))).slots.getD _ _ = _
        rw [Array.getD_eq_getD_getElem?, hcs, arrV_read _ _ (by omega)]
        rfl
      refine ⟨?_, ?_⟩
      · rw [e]; rfl
      · rw [e]; exact trivial)
    (g := F0 m pc lsM (.int (Int32.ofInt n) :: .int (Int32.ofInt dp) :: .ref (gB G + (a - 1)) :: .int (Int32.ofInt sp) :: .ref (gB G + (a0 - 1)) :: st.map (mv G))) rfl (by rw [hC.2.2.1]; exact hF.1.1) (rest := st.map (mv G)) rfl (by rw [hC.2.1]; exact hd) (by have := hC.2.2.2.2.2.2.2.2.2.2.1; omega) (by
      have hr1 := hC.2.2.2.2.2.2.2.2.2.2.2.1
      have hr0 : ((st.map (mv G)).map fun v => v.category).sum = (st.map pcat).sum := by rw [List.map_map]; congr 1; exact List.map_congr_left (fun v _ => mv_cat G v)
      have hnw : nativeFrameWords "java/lang/System" "arraycopy" 5 + 11 ≤ 20 := by decide +kernel
      show 2 * 0 + _ + _ ≤ _
      omega)
  have e1 : copied (vp_cell (gC G 21) (sL S a0, .inl (fun j => Int32.ofInt (I a0 j)))) (vp_cell (gC G 21) (sL S a, .inl (fun j => Int32.ofInt (I a j)))) (Int32.ofInt sp) (Int32.ofInt dp) (Int32.ofInt n) = vp_cell (gC G 21) (sL S a, .inl (fun j => Int32.ofInt (va_cpy (I a0) (I a) sp.toNat dp.toNat n.toNat j))) := by
    have := va_copied (fun z => .int z) (gC G 21) (gC G 21) (n1 := sL S a) (n0 := sL S a0) (sp := (Int32.ofInt sp).toNatClampNeg) (dp := (Int32.ofInt dp).toNatClampNeg) (n := (Int32.ofInt n).toNatClampNeg) (fun j => Int32.ofInt (I a0 j)) (fun j => Int32.ofInt (I a j)) (by rw [hcs, hcn]; omega)
    refine Eq.trans (b := arrV (gC G 21) (sL S a) (fun j => .int (va_cpy (fun j => Int32.ofInt (I a0 j)) (fun j => Int32.ofInt (I a j)) (Int32.ofInt sp).toNatClampNeg (Int32.ofInt dp).toNatClampNeg (Int32.ofInt n).toNatClampNeg j))) this ?_
    rw [hcs, hcd, hcn, vp_cell_i]
    refine congrArg (arrV _ _) (funext fun q => ?_)
    unfold va_cpy
    split <;> rfl
  rw [e1] at X' step
  have hl : gB G + (a - 1) < Hm.size := (Array.getElem?_eq_some_iff.mp hc1).1
  generalize hnew : vp_cell (gC G 21) (sL S a, .inl (fun j => Int32.ofInt (va_cpy (I a0) (I a) sp.toNat dp.toNat n.toNat j))) = cnew at X' step
  have hheap : ((T.setVm vm').setCell (gB G + (a - 1)) cnew).heap = Hm.setIfInBounds (gB G + (a - 1)) cnew := by rw [← hTm]; rfl
  have oq : ∀ q : Nat, q ≠ gB G + (a - 1) → (Hm.setIfInBounds (gB G + (a - 1)) cnew)[q]? = Hm[q]? := fun q hq => by simp [Array.getElem?_setIfInBounds, Ne.symm hq]
  have hP := hF.2.1.1.set (wsOf_D G S I R) hw1 (e := .inl (gC G 21, sL S a, .inl (fun j => Int32.ofInt (va_cpy (I a0) (I a) sp.toNat dp.toNat n.toNat j)))) (H1 := Hm.setIfInBounds (gB G + (a - 1)) cnew) (by
    show (Hm.setIfInBounds _ _)[_]? = some (vp_cell _ _)
    rw [hnew]
    simp [Array.getElem?_setIfInBounds, hl]) oq
  rw [hset] at hP
  have hS2 : ∀ L : List Loc, (∀ q ∈ L, q.base = gB G + (a - 1)) → va_S (fun q => gB G ≤ q) s.heap (Hm.setIfInBounds (gB G + (a - 1)) cnew) (locs ++ L) := fun L hL => by
    refine ⟨by simp; exact hF.2.2.1, fun q g1 g2 => ?_, fun q hq => ?_⟩
    · rw [oq q (fun e => g2 (by rw [e]; show gB G ≤ gB G + (a - 1); omega))]
      exact hF.2.2.2.1 q g1 g2
    · rcases List.mem_append.mp hq with h | h
      · exact hF.2.2.2.2 q h
      · rw [hL q h]; show gB G ≤ gB G + (a - 1); omega
  have fin : ∀ L : List Loc, (∀ q ∈ L, q.base = gB G + (a - 1)) → W p l e Rm s m args below meth c (Hm.setIfInBounds (gB G + (a - 1)) cnew) (locs ++ L) cells slots Z (F0 m (pc + 3) lsM (st.map (mv G))) := fun L hL => by
    have := kk _ _ lsM ⟨hF.1, ⟨hP, by simp; exact hF.2.1.2⟩, hS2 L hL⟩
    simpa using this
  obtain ⟨t, a1, b1⟩ := fin _ (by
    intro q hq
    obtain ⟨z, -, hz⟩ := List.mem_map.mp hq
    rw [← hz]) _ hheap X'
  exact ⟨t, step t a1, b1⟩
theorem e_copyB {a0 : Nat} {sp dp n : Int} (hd : decode (mC μ) pc = .ok (.invokestatic idx, 3)) (hw : Cond.methodLink (mO μ) idx arraycopyName ∈ lw_t2 ∧ Cond.native arraycopyName ∈ lw_t2 ∧ Cond.static arraycopyName ∈ lw_t2 ∧ Cond.initialized "java/lang/System" ∈ lw_t2)
    (hk : 1 ≤ mK μ ∧ 40 ≤ mW μ) (hst : (st.map pcat).sum ≤ 8) (ht0 : sT S a0 = 22) (ht : sT S a = 22) (h1 : 0 ≤ sp) (h2 : 0 ≤ dp) (h3 : 0 ≤ n) (h4 : sp + n ≤ (sL S a0 : Int)) (h5 : dp + n ≤ (sL S a : Int))
    (k : E G μ (pc + 3) ls st S (up1 I a (va_cpy (I a0) (I a) sp.toNat dp.toNat n.toNat)) R Q) : E G μ pc ls (vI n :: vI dp :: vR a :: vI sp :: vR a0 :: st) S I R Q := by
  refine e_step (Nat.le_refl _) (Nat.le_refl _) (fun o1 o2 o3 o4 => ⟨o1, ?_, o3, vok_tl (vok_tl (vok_tl (vok_tl (vok_tl o4))))⟩) ?_ k
  · intro b j
    by_cases hb : b = a
    · subst hb
      rw [up1_s]
      unfold va_cpy
      have ha0 := o2 a0 (sp.toNat + (j - dp.toNat))
      rw [ht0] at ha0
      rw [ht]
      split
      · exact ha0
      · have := o2 b j
        rw [ht] at this
        exact this
    · rw [up1_n hb]; exact o2 b j
  intro p l e Rm s m args below meth c Hm locs cells slots lsM Z o1 o2 o3 o4 hC hc hs hF kk
  have hK := hC.2.2.2.2.2.2.2.2.1
  have hT := hC.2.2.2.2.2.2.2.2.2.1
  have hts := hC.2.2.2.2.1
  have in_n : InR n := vok_hd o4
  have in_d : InR dp := vok_hd (vok_tl o4)
  have in_s : InR sp := vok_hd (vok_tl (vok_tl (vok_tl o4)))
  obtain ⟨q1, q2, -⟩ := o1.2 a (by omega)
  obtain ⟨q3, q4, -⟩ := o1.2 a0 (by omega)
  have hw1 := wsOf_get G I R q1 q2
  rw [ht, cellE_int G (by omega) (by omega)] at hw1
  have hw0 := wsOf_get G I R q3 q4
  rw [ht0, cellE_int G (by omega) (by omega)] at hw0
  simp only [List.map_cons]
  rw [mv_ref G q1, mv_ref G q3]
  have neg : ∀ {z : Int}, InR z → 0 ≤ z → ¬ Int32.ofInt z < 0 := fun {z} hz h0 h => by
    rw [Int32.lt_iff_toInt_lt, o32 hz] at h
    have : z < 0 := h
    omega
  have hcs := cl_of in_s
  have hcd := cl_of in_d
  have hcn := cl_of in_n
  have hset := wsOf_set G (S := S) (I := I) (I' := up1 I a (va_cpy (I a0) (I a) sp.toNat dp.toNat n.toNat)) (R := R) (R' := R) q1 q2 (fun b hb => up1_n hb) (fun _ _ => rfl) (e := .inl (gC G 22, sL S a, .inl (fun j => Int32.ofInt (va_cpy (I a0) (I a) sp.toNat dp.toNat n.toNat j)))) (by rw [ht, cellE_int G (by omega) (by omega), up1_s])
  have hc0 : Hm[gB G + (a0 - 1)]? = some (vp_cell (gC G 22) (sL S a0, .inl (fun j => Int32.ofInt (I a0 j)))) := hF.2.1.1 _ _ hw0
  have hc1 : Hm[gB G + (a - 1)]? = some (vp_cell (gC G 22) (sL S a, .inl (fun j => Int32.ofInt (I a j)))) := hF.2.1.1 _ _ hw1
  have htyp := gT_at (t := 22) hT rfl
  obtain ⟨-, k0, hk0, cm0, hkk0⟩ := (hK.2 _ _ htyp).1 (sL S a0) (fun j => .int (Int32.ofInt (I a0 j)))
  obtain ⟨-, k1, hk1, cm1, hkk1⟩ := (hK.2 _ _ htyp).1 (sL S a) (fun j => .int (Int32.ofInt (I a j)))
  intro T hTm X
  obtain ⟨vm', X', step⟩ := X.arraycopy hC.1 hC.2.2.2.1 (hts _ hw.1) (hts _ hw.2.1) (hts _ hw.2.2.1) (hts _ hw.2.2.2) (src := gB G + (a0 - 1)) (dst := gB G + (a - 1)) (cs := vp_cell (gC G 22) (sL S a0, .inl (fun j => Int32.ofInt (I a0 j)))) (cd := vp_cell (gC G 22) (sL S a, .inl (fun j => Int32.ofInt (I a j)))) (srcPos := Int32.ofInt sp) (destPos := Int32.ofInt dp) (n := Int32.ofInt n) (by rw [hTm]; exact hc0) (by rw [hTm]; exact hc1)
    (fun _ h => by cases h) (fun _ h => by cases h) (fun h => by cases h) (fun h => by cases h) hk0 hk1 hkk0 hkk1 (by simp [refKind]) (neg in_s h1) (neg in_d h2) (neg in_n h3)
    (by rw [o32 in_s, o32 in_n]; show ¬ _ > ((arrV (gC G 22) (sL S a0) (fun j => .int (Int32.ofInt (I a0 j)))).slots.size : Int); rw [arrV_size]; omega)
    (by rw [o32 in_d, o32 in_n]; show ¬ _ > ((arrV (gC G 22) (sL S a) (fun j => .int (Int32.ofInt (I a j)))).slots.size : Int); rw [arrV_size]; omega)
    (fun vm₁ _ i hi => by
      rw [hcn] at hi
      have e : (vp_cell (gC G 22) (sL S a0, .inl (fun j => Int32.ofInt (I a0 j)))).slots.getD ((Int32.ofInt sp).toNatClampNeg + i) .null = .int (Int32.ofInt (I a0 (sp.toNat + i))) := by
        show (arrV (gC G 22) (sL S a0) (fun j => .int (Int32.ofInt (I a0 j)))).slots.getD _ _ = _
        rw [Array.getD_eq_getD_getElem?, hcs, arrV_read _ _ (by omega)]
        rfl
      refine ⟨?_, ?_⟩
      · rw [e]
        have h9 := o2 a0 (sp.toNat + i)
        rw [ht0] at h9
        exact fits_b h9
      · rw [e]; exact trivial)
    (g := F0 m pc lsM (.int (Int32.ofInt n) :: .int (Int32.ofInt dp) :: .ref (gB G + (a - 1)) :: .int (Int32.ofInt sp) :: .ref (gB G + (a0 - 1)) :: st.map (mv G))) rfl (by rw [hC.2.2.1]; exact hF.1.1) (rest := st.map (mv G)) rfl (by rw [hC.2.1]; exact hd) (by have := hC.2.2.2.2.2.2.2.2.2.2.1; omega) (by
      have hr1 := hC.2.2.2.2.2.2.2.2.2.2.2.1
      have hr0 : ((st.map (mv G)).map fun v => v.category).sum = (st.map pcat).sum := by rw [List.map_map]; congr 1; exact List.map_congr_left (fun v _ => mv_cat G v)
      have hnw : nativeFrameWords "java/lang/System" "arraycopy" 5 + 11 ≤ 20 := by decide +kernel
      show 2 * 0 + _ + _ ≤ _
      omega)
  have e1 : copied (vp_cell (gC G 22) (sL S a0, .inl (fun j => Int32.ofInt (I a0 j)))) (vp_cell (gC G 22) (sL S a, .inl (fun j => Int32.ofInt (I a j)))) (Int32.ofInt sp) (Int32.ofInt dp) (Int32.ofInt n) = vp_cell (gC G 22) (sL S a, .inl (fun j => Int32.ofInt (va_cpy (I a0) (I a) sp.toNat dp.toNat n.toNat j))) := by
    have := va_copied (fun z => .int z) (gC G 22) (gC G 22) (n1 := sL S a) (n0 := sL S a0) (sp := (Int32.ofInt sp).toNatClampNeg) (dp := (Int32.ofInt dp).toNatClampNeg) (n := (Int32.ofInt n).toNatClampNeg) (fun j => Int32.ofInt (I a0 j)) (fun j => Int32.ofInt (I a j)) (by rw [hcs, hcn]; omega)
    refine Eq.trans (b := arrV (gC G 22) (sL S a) (fun j => .int (va_cpy (fun j => Int32.ofInt (I a0 j)) (fun j => Int32.ofInt (I a j)) (Int32.ofInt sp).toNatClampNeg (Int32.ofInt dp).toNatClampNeg (Int32.ofInt n).toNatClampNeg j))) this ?_
    rw [hcs, hcd, hcn, vp_cell_i]
    refine congrArg (arrV _ _) (funext fun q => ?_)
    unfold va_cpy
    split <;> rfl
  rw [e1] at X' step
  have hl : gB G + (a - 1) < Hm.size := (Array.getElem?_eq_some_iff.mp hc1).1
  generalize hnew : vp_cell (gC G 22) (sL S a, .inl (fun j => Int32.ofInt (va_cpy (I a0) (I a) sp.toNat dp.toNat n.toNat j))) = cnew at X' step
  have hheap : ((T.setVm vm').setCell (gB G + (a - 1)) cnew).heap = Hm.setIfInBounds (gB G + (a - 1)) cnew := by rw [← hTm]; rfl
  have oq : ∀ q : Nat, q ≠ gB G + (a - 1) → (Hm.setIfInBounds (gB G + (a - 1)) cnew)[q]? = Hm[q]? := fun q hq => by simp [Array.getElem?_setIfInBounds, Ne.symm hq]
  have hP := hF.2.1.1.set (wsOf_D G S I R) hw1 (e := .inl (gC G 22, sL S a, .inl (fun j => Int32.ofInt (va_cpy (I a0) (I a) sp.toNat dp.toNat n.toNat j)))) (H1 := Hm.setIfInBounds (gB G + (a - 1)) cnew) (by
    show (Hm.setIfInBounds _ _)[_]? = some (vp_cell _ _)
    rw [hnew]
    simp [Array.getElem?_setIfInBounds, hl]) oq
  rw [hset] at hP
  have hS2 : ∀ L : List Loc, (∀ q ∈ L, q.base = gB G + (a - 1)) → va_S (fun q => gB G ≤ q) s.heap (Hm.setIfInBounds (gB G + (a - 1)) cnew) (locs ++ L) := fun L hL => by
    refine ⟨by simp; exact hF.2.2.1, fun q g1 g2 => ?_, fun q hq => ?_⟩
    · rw [oq q (fun e => g2 (by rw [e]; show gB G ≤ gB G + (a - 1); omega))]
      exact hF.2.2.2.1 q g1 g2
    · rcases List.mem_append.mp hq with h | h
      · exact hF.2.2.2.2 q h
      · rw [hL q h]; show gB G ≤ gB G + (a - 1); omega
  have fin : ∀ L : List Loc, (∀ q ∈ L, q.base = gB G + (a - 1)) → W p l e Rm s m args below meth c (Hm.setIfInBounds (gB G + (a - 1)) cnew) (locs ++ L) cells slots Z (F0 m (pc + 3) lsM (st.map (mv G))) := fun L hL => by
    have := kk _ _ lsM ⟨hF.1, ⟨hP, by simp; exact hF.2.1.2⟩, hS2 L hL⟩
    simpa using this
  obtain ⟨t, a1, b1⟩ := fin _ (by
    intro q hq
    obtain ⟨z, -, hz⟩ := List.mem_map.mp hq
    rw [← hz]) _ hheap X'
  exact ⟨t, step t a1, b1⟩
end ML
end
section
/-! ===== THE WALK: calls and returns ===== -/
theorem lw_good : GoodIn lw_t2 lw_t2 := fun w h => ⟨h, good_of_word (lw_gd h)⟩
section RT
variable {G : Gl} {μ : MB} {pc pc2 : Nat} {ls ls2 : Lc} {st st2 : List PV} {S S2 : Sh} {I I2 : MI} {R R2 : MR} {Q : PQ} {idx ci f a : Nat} {i x y : Int}
theorem e_retC {v : PV} (hst : retst G v = st.map (mv G)) (hr : okV st → vok v ∧ IsRet μ pc v) (hq : Q S I R v) : E G μ pc ls st S I R Q := by
  intro o1 o2 o3 o4
  refine ⟨S, I, R, v, hq, o1, o2, (hr o4).1, Nat.le_refl _, Nat.le_refl _, ?_⟩
  intro p l e Rm s m args below meth c Hm locs cells slots lsM Z hC hc hs hF kk
  have := kk Hm locs pc lsM hF.2.1 hF.2.2 (hr o4).2
  rw [hst] at this
  simpa using this
theorem e_ireturn (hd : decode (mC μ) pc = .ok (.ireturn, 1)) (hr : mR μ = some .int) (hq : Q S I R (vI x)) : E G μ pc ls [vI x] S I R Q :=
  e_retC (v := vI x) rfl (fun o => ⟨vok_hd o, Or.inl ⟨x, rfl, hd, Or.inl hr⟩⟩) hq
theorem e_zreturn (hd : decode (mC μ) pc = .ok (.ireturn, 1)) (hr : mR μ = some .boolean) (hx : x = 0 ∨ x = 1) (hq : Q S I R (vI x)) : E G μ pc ls [vI x] S I R Q :=
  e_retC (v := vI x) rfl (fun o => ⟨vok_hd o, Or.inl ⟨x, rfl, hd, Or.inr (Or.inl ⟨hr, hx⟩)⟩⟩) hq
theorem e_breturn (hd : decode (mC μ) pc = .ok (.ireturn, 1)) (hr : mR μ = some .byte) (hx : -128 ≤ x ∧ x < 128) (hq : Q S I R (vI x)) : E G μ pc ls [vI x] S I R Q :=
  e_retC (v := vI x) rfl (fun o => ⟨vok_hd o, Or.inl ⟨x, rfl, hd, Or.inr (Or.inr (Or.inl ⟨hr, hx⟩))⟩⟩) hq
theorem e_creturn (hd : decode (mC μ) pc = .ok (.ireturn, 1)) (hr : mR μ = some .char) (hx : 0 ≤ x ∧ x < 65536) (hq : Q S I R (vI x)) : E G μ pc ls [vI x] S I R Q :=
  e_retC (v := vI x) rfl (fun o => ⟨vok_hd o, Or.inl ⟨x, rfl, hd, Or.inr (Or.inr (Or.inr ⟨hr, hx⟩))⟩⟩) hq
theorem e_areturn {r : Nat} {C : String} (hd : decode (mC μ) pc = .ok (.areturn, 1)) (hr : ∃ n, mR μ = some (.object n)) (hq : Q S I R (vR r)) : E G μ pc ls [vR r] S I R Q := by
  obtain ⟨n, hr⟩ := hr
  exact e_retC (v := vR r) rfl (fun o => ⟨vok_hd o, Or.inr (Or.inl ⟨r, rfl, hd, _, hr, Or.inl ⟨n, rfl⟩⟩)⟩) hq
theorem e_areturnA {r : Nat} (hd : decode (mC μ) pc = .ok (.areturn, 1)) (hr : ∃ n, mR μ = some (.array n)) (hq : Q S I R (vR r)) : E G μ pc ls [vR r] S I R Q := by
  obtain ⟨n, hr⟩ := hr
  exact e_retC (v := vR r) rfl (fun o => ⟨vok_hd o, Or.inr (Or.inl ⟨r, rfl, hd, _, hr, Or.inr ⟨n, rfl⟩⟩)⟩) hq
theorem e_return (hd : decode (mC μ) pc = .ok (.return_, 1)) (hr : mR μ = none) (hq : Q S I R vS) : E G μ pc ls [] S I R Q :=
  e_retC (v := vS) rfl (fun o => ⟨trivial, Or.inr (Or.inr ⟨rfl, hd, hr⟩)⟩) hq
end RT
def lsArgs : Nat → List PV → Lc
  | _, [] => []
  | i, v :: vs => (i, v) :: lsArgs (i + pcat v) vs
theorem mls_args (G : Gl) : ∀ (i : Nat) (vs : List PV), lv_args i (vs.map (mv G)) = mls G (lsArgs i vs)
  | _, [] => rfl
  | i, v :: vs => by
    show (i, mv G v) :: lv_args (if (mv G v).category = 2 then i + 2 else i + 1) (vs.map (mv G)) = (i, mv G v) :: mls G (lsArgs (i + pcat v) vs)
    have h : (if (mv G v).category = 2 then i + 2 else i + 1) = i + pcat v := by
      rw [mv_cat]
      unfold pcat
      split <;> rfl
    rw [h, mls_args]
theorem sl_len (G : Gl) : ∀ vs : List PV, (lg_sl (vs.map (mv G))).length = (vs.map pcat).sum
  | [] => rfl
  | v :: vs => by
    have h := sl_len G vs
    show ((if (mv G v).category = 2 then [Slot.val (mv G v), Slot.second] else [Slot.val (mv G v)]) ++ lg_sl (vs.map (mv G))).length = pcat v + (vs.map pcat).sum
    rw [List.length_append, h, mv_cat]
    congr 1
    unfold pcat
    split <;> rfl
theorem lok_args : ∀ (i : Nat) (vs : List PV), okV vs → okL (lsArgs i vs)
  | _, [], _ => fun _ h => by cases h
  | i, v :: vs, h => lok_cons (vok_hd h) (lok_args _ vs (vok_tl h))
/-- the outcome of a return -/
def retv (G : Gl) : PV → Option Value
  | .inr (.inr 0) => none
  | v => some (mv G v)
theorem retv_st (G : Gl) (v : PV) : (retv G v).toList = retst G v := by
  match v with
  | .inl (.inl _) => rfl
  | .inl (.inr _) => rfl
  | .inr (.inr 0) => rfl
  | .inr (.inr (_ + 1)) => rfl
  | .inr (.inl 0) => rfl
  | .inr (.inl (_ + 1)) => rfl
def wsM (μ : MB) : List Cond := Cond.code (mY μ) (mC μ) (mL μ) (mR μ) :: lw_t2
def rmM (μ : MB) (mc ms : Nat) : Room := { frames := mK μ, cells := mc, slots := ms, locals := mW μ }
def pcM (G : Gl) (as : List PV) (S : Sh) (I : MI) (R : MR) : Array Value → State → Prop := fun a U => a = (as.map (mv G)).toArray ∧ MRel G S I R U.heap ∧ va_K (gD G) vwCl (gT G) U ∧ gB G ≤ U.heap.size ∧ va_X (gb G) (gL G) (gX G) U U.heap ∧ ExW G U U.heap
def qcM (G : Gl) (S : Sh) (I : MI) (R : MR) (v : PV) : Array Value → State → Outcome → State → Prop := fun _ s o t => o = .returned (retv G v) ∧ MRel G S I R t.heap ∧ va_F (fun q => gB G ≤ q) s t
theorem nar_c {x : Int} (h : 0 ≤ x ∧ x < 65536) : narrow .char (.int (Int32.ofInt x)) = .int (Int32.ofInt x) := by
  apply narrow_of_fits
  have e : (Int32.ofInt x).toInt = x := o32 (by unfold InR; omega)
  show ((0 : Int32) ≤ Int32.ofInt x && Int32.ofInt x ≤ (65535 : Int32)) = true
  rw [Bool.and_eq_true, decide_eq_true_iff, decide_eq_true_iff, Int32.le_iff_toInt_le, Int32.le_iff_toInt_le, e]
  exact ⟨h.1, by show x ≤ 65535; omega⟩
theorem met_of {G : Gl} {μ : MB} {l : Launch} {as : List PV} {S S' : Sh} {I I' : MI} {R R' : MR} {v : PV} (hy : plainName (mY μ).cls = true) (hown : mO μ = (mY μ).cls) (hlen : (as.map pcat).sum ≤ mL μ) (hT : (gT G).map Prod.snd = atyL ∧ gb G < gB G ∧ gL G ≤ 260)
    (hr : Run G μ 0 (lsArgs 0 as) [] S I R S' I' R' v) : Met l (mY μ) (wsM μ) (rmM μ (sN S' - sN S) (sU S' - sU S)) (pcM G as S I R) (qcM G S' I' R' v) (sN S' - sN S) (sU S' - sU S) (fun q => gB G ≤ q) := by
  obtain ⟨h1, h2, hrun⟩ := hr
  refine Met.ofW (cc := mC μ) (maxL := mL μ) (ret := mR μ) hy rfl ?_
  intro p e s m args below meth c s₁ B hml hv
  obtain ⟨rfl, hM, hK, hbs, hX, hEx⟩ := hv
  have hts := atoms_spec (ws := wsM μ) B.pre
  have hown' : s.vm.findClass (mY μ).cls = some m.cls := findClass_of_methodNamed B.named
  have hin : meth.name = (mY μ).name := (name_of_methodNamed B.named B.method).1
  have hl := lv_entry (as.map (mv G)) (n := mL μ) (by rw [sl_len]; exact hlen)
  rw [mls_args] at hl
  rw [lg_entry_eq]
  have hrr := B.returns
  have hlocks := B.notSynchronized
  have hbb := B.bytes
  have hxx := B.exec
  refine hrun p l e _ s m _ below meth c s.heap [] 0 0 _ _ ⟨B.exec, B.bytes, hml, by rw [hown]; exact hown', fun w hw => hts w (List.mem_cons_of_mem _ hw), B.returns, B.notSynchronized, fun h => hin.trans h, hK, hT.1, Nat.le_refl _, Nat.le_refl _, hbs, hT.2.1, hX, hT.2.2, hEx⟩ (by show _ ≤ sN S' - sN S; omega) (by show _ ≤ sU S' - sU S; omega) ⟨hl, hM, va_S.rf⟩ ?_
  intro Hm' locs' pc' ls' hM' hS' hret
  rw [Nat.zero_add, Nat.zero_add]
  have hq : ∀ t : State, t.heap = Hm' → s.WarmedH t.vm → qcM G S' I' R' v (as.map (mv G)).toArray s (.returned (retv G v)) t := fun t ht _ => ⟨rfl, by rw [ht]; exact hM', hS'.F ht⟩
  have hf : ∀ q ∈ locs', gB G ≤ q.base := hS'.2.2
  rcases hret with ⟨x, rfl, hd, hmr⟩ | ⟨r, rfl, hd, rt, hmr, hrt⟩ | ⟨rfl, hd, hmr⟩
  · rcases hmr with hmr | ⟨hmr, hx⟩ | ⟨hmr, hx⟩ | ⟨hmr, hx⟩
    · exact W.iret hxx hbb (hrr.trans hmr) hq hf hd hlocks
    · exact W.zret (ty := .boolean) hxx hbb (hrr.trans hmr) (by rcases hx with rfl | rfl <;> rfl) hq hf hd hlocks
    · exact W.zret (ty := .byte) hxx hbb (hrr.trans hmr) (nar_b hx) hq hf hd hlocks
    · exact W.zret (ty := .char) hxx hbb (hrr.trans hmr) (nar_c hx) hq hf hd hlocks
  · have hret1 : retst G (vR r) = [mv G (vR r)] := rfl
    have hretv : retv G (vR r) = some (mv G (vR r)) := rfl
    rw [hretv] at hq
    rw [hret1]
    exact W.aret hxx hbb (hrr.trans hmr) hrt (by cases r with
      | zero => exact Or.inl rfl
      | succ k => exact Or.inr ⟨_, rfl⟩) hq hf hd hlocks
  · exact W.vret hxx hbb (hrr.trans hmr) hq hf hd hlocks
end
section
/-! ===== THE WALK: calls ===== -/
def retl : PV → List PV
  | .inr (.inr 0) => []
  | v => [v]
theorem retl_map (G : Gl) (v : PV) (st : List PV) : (retv G v).toList ++ st.map (mv G) = (retl v ++ st).map (mv G) := by
  match v with
  | .inl (.inl _) => rfl
  | .inl (.inr _) => rfl
  | .inr (.inr 0) => rfl
  | .inr (.inr (_ + 1)) => rfl
  | .inr (.inl 0) => rfl
  | .inr (.inl (_ + 1)) => rfl
theorem okV_retl {v : PV} {st : List PV} (h : vok v) (hs : okV st) : okV (retl v ++ st) := by
  match v, h with
  | .inl (.inl x), h => exact vok_cons (v := vI x) h hs
  | .inl (.inr x), h => exact vok_cons (v := vL x) h hs
  | .inr (.inr 0), _ => exact hs
  | .inr (.inl r), h => exact vok_cons (v := vR r) h hs
  | .inr (.inr (k + 1)), h => exact vok_cons (v := vO (k + 1)) h hs
theorem ExA.same {u U : State} (h : u.vm = U.vm) (hE : ExA u) : ExA U := by
  have hal : u.vm.Alike U.vm := by rw [h]; exact Vm.Alike.refl _
  refine ⟨fun w hw => ?_, hE.2.1.moved hal, hE.2.2.1.moved hal, hE.2.2.2.1.moved hal, hE.2.2.2.2.1.moved hal, va_Nw.same rfl h hE.2.2.2.2.2⟩
  have h1 := hE.1 w hw
  have h2 := (List.mem_filter.mp hw).2
  cases w with
  | methodLinkNest a i x hh => exact va_Nw.same rfl h h1
  | _ => cases h2
theorem ExW.same {G : Gl} {u U : State} {H : Heap} (h : u.vm = U.vm) (hE : ExW G u H) : ExW G U H := ⟨ExA.same h hE.1, va_Old.same h hE.2⟩
theorem pcM_blind (G : Gl) (as : List PV) (S : Sh) (I : MI) (R : MR) : FrameBlind (pcM G as S I R) := by
  intro a U g mk h
  obtain ⟨h1, h2, h3, h4, h5, h6⟩ := h
  exact ⟨h1, h2, va_K.moved (u := U) (U := U.calling g mk a) (Vm.Alike.refl U.vm) h3, h4, va_X.moved (u := U) (U := U.calling g mk a) (Vm.Alike.refl U.vm) h5, ExW.same (u := U) (U := U.calling g mk a) rfl h6⟩
def mOK (μ : MB) (n : Nat) : Prop := Cond.code (mY μ) (mC μ) (mL μ) (mR μ) ∈ lw_t2 ∧ plainName (mY μ).cls = true ∧ mO μ = (mY μ).cls ∧ ((mY μ).cls ≠ "java/lang/invoke/MethodHandle" ∧ (mY μ).cls ≠ "java/lang/invoke/VarHandle" ∧ (parseMethodDescriptor (mY μ).desc).map (fun d => d.parameters.length) = some n) ∧ mL μ ≤ 150 ∧ Cond.initialized (mY μ).cls ∈ lw_t2
theorem good_in {w : Cond} (h : w ∈ lw_t2) : w ∈ lw_t2 ∧ ((w.onTables && w.keeps) = true ∨ ∃ ty, w = .arrayClass ty) := ⟨h, good_of_word (lw_gd h)⟩
theorem good_ws {μ : MB} {n : Nat} (h : mOK μ n) : GoodIn lw_t2 (wsM μ) := fun w hw => by
  rcases List.mem_cons.mp hw with rfl | hw
  · exact good_in h.1
  · exact lw_good w hw
section CL
variable {G : Gl} {μ μ' : MB} {pc pc2 : Nat} {ls ls2 : Lc} {st st2 as : List PV} {S S2 : Sh} {I I2 : MI} {R R2 : MR} {Q Q' : PQ} {idx ci f a n : Nat} {i x y : Int}
theorem e_callC (hok : mOK μ' n) (hk : mK μ' < mK μ ∧ mL μ' + mW μ' + 19 ≤ mW μ) (hlen : (as.map pcat).sum ≤ mL μ')
    (hrun : ∀ (p : Program) (l : Launch) (e : Env) (Rm : Room) (s : State) (m : MethodId) (args : Array Value) (below : List Frame) (meth : Method) (c : Code) (Hm : Heap) (locs : List Loc) (cells slots : Nat) (lsM : Array Slot) (mc ms : Nat) (Qc : Array Value → State → Outcome → State → Prop),
      okS S → Cx G μ p Rm s m args meth c → MRel G S I R Hm → lsM.size = mL μ → Met l (mY μ') (wsM μ') (rmM μ' mc ms) (pcM G as S I R) Qc mc ms (fun q => gB G ≤ q) → (rmM μ' mc ms).frames + 1 ≤ Rm.frames ∧ 8 + (mL μ' + 11) + (rmM μ' mc ms).locals ≤ Rm.locals → cells + mc ≤ Rm.cells ∧ slots + ms ≤ Rm.slots →
      (FrameBlind (pcM G as S I R) ∧ ∀ U : State, U.heap = Hm → s.WarmedH U.vm → pcM G as S I R (as.map (mv G)).toArray U) →
      va_Run p l e Rm s m args below meth c Hm locs cells slots mc ms (F0 m pc lsM ((as.reverse ++ st).map (mv G))) (st.map (mv G)) (Qc (as.map (mv G)).toArray) (fun q => gB G ≤ q))
    (k : E G μ' 0 (lsArgs 0 as) [] S I R Q') (kk : ∀ S' I' R' v, Q' S' I' R' v → E G μ (pc + 3) ls (retl v ++ st) S' I' R' Q) : E G μ pc ls (as.reverse ++ st) S I R Q := by
  intro o1 o2 o3 o4
  have oas : okV as := fun v hv => o4 v (List.mem_append_left _ (List.mem_reverse.mpr hv))
  have ost : okV st := fun v hv => o4 v (List.mem_append_right _ hv)
  obtain ⟨S1, I1, R1, v1, hq1, p1, p2, p3, hr1⟩ := k o1 o2 (lok_args 0 as oas) (fun _ h => by cases h)
  obtain ⟨S2, I2, R2, v2, hq2, p4, p5, p6, hr2⟩ := kk _ _ _ _ hq1 p1 p2 o3 (okV_retl p3 ost)
  have hn1 := hr1.1
  have hu1 := hr1.2.1
  have hn2 := hr2.1
  have hu2 := hr2.2.1
  refine ⟨S2, I2, R2, v2, hq2, p4, p5, p6, Nat.le_trans hn1 hn2, Nat.le_trans hu1 hu2, ?_⟩
  intro p l e Rm s m args below meth c Hm locs cells slots lsM Z hC hc hs hF kz
  have hMet := met_of (l := l) hok.2.1 hok.2.2.1 hlen ⟨hC.2.2.2.2.2.2.2.2.2.1, hC.2.2.2.2.2.2.2.2.2.2.2.2.2.1, hC.2.2.2.2.2.2.2.2.2.2.2.2.2.2.2.1⟩ hr1
  have hK := hC.2.2.2.2.2.2.2.2.1
  have hbs := hC.2.2.2.2.2.2.2.2.2.2.2.2.1
  have hbb := hC.2.2.2.2.2.2.2.2.2.2.2.2.2.1
  have hX := hC.2.2.2.2.2.2.2.2.2.2.2.2.2.2.1
  have hEx := hC.2.2.2.2.2.2.2.2.2.2.2.2.2.2.2.2
  have hfr := hC.2.2.2.2.2.2.2.2.2.2.1
  have hlo := hC.2.2.2.2.2.2.2.2.2.2.2.1
  have hbl : gb G < s.heap.size := Nat.lt_of_lt_of_le hbb hbs
  have hX' : va_X (gb G) (gL G) (gX G) s Hm := hX.kept (hF.2.2.2.1 (gb G) hbl (Nat.not_le.mpr hbb))
  have hr := hrun p l e Rm s m args below meth c Hm locs cells slots lsM (sN S1 - sN S) (sU S1 - sU S) _ o1 hC hF.2.1 hF.1.1 hMet (by
      have := hok.2.2.2.2.1
      show mK μ' + 1 ≤ Rm.frames ∧ 8 + (mL μ' + 11) + mW μ' ≤ Rm.locals
      omega) ⟨by omega, by omega⟩ ⟨pcM_blind G as S I R, fun U hU hW => ⟨rfl, by rw [hU]; exact hF.2.1, hK.moved hW.alike, by rw [hU]; exact Nat.le_trans hbs hF.2.2.1, by rw [hU]; exact hX'.moved hW.alike, by rw [hU]; exact ExW.warm hW ⟨hEx.1, hEx.2.kept (fun q g1 g2 => hF.2.2.2.1 q g1 g2)⟩⟩⟩
  intro T hT X
  obtain ⟨v, st₀, t, T', L, h0, X', hL, e1, e2, ⟨hov, hM1, hF1⟩, step⟩ := hr T hT X
  cases hov
  have hS' : va_S (fun q => gB G ≤ q) s.heap T'.heap (locs ++ L) := by
    refine ⟨Nat.le_trans hF.2.2.1 (by rw [e1, ← h0]; exact hF1.1), fun q g1 g2 => ?_, fun q hq => ?_⟩
    · rw [e1, hF1.2 q (by rw [h0]; exact Nat.lt_of_lt_of_le g1 hF.2.2.1) g2, h0]
      exact hF.2.2.2.1 q g1 g2
    · rcases List.mem_append.mp hq with h | h
      · exact hF.2.2.2.2 q h
      · exact hL q h
  obtain ⟨t2, a1, b1⟩ := hr2.2.2 p l e Rm s m args below meth c T'.heap (locs ++ L) (cells + (sN S1 - sN S)) (slots + (sU S1 - sU S)) lsM Z hC (by omega) (by omega) ⟨hF.1, by rw [e1]; exact hM1, hS'⟩ (fun Hm' locs' pc' ls' g1 g2 g3 => by
    rw [show cells + (sN S1 - sN S) + (sN S2 - sN S1) = cells + (sN S2 - sN S) by omega, show slots + (sU S1 - sU S) + (sU S2 - sU S1) = slots + (sU S2 - sU S) by omega]
    exact kz Hm' locs' pc' ls' g1 g2 g3) T' rfl X'
  refine ⟨t2, step t2 ?_, b1⟩
  rw [← retl_map] at a1
  exact a1
theorem cat_sum (G : Gl) {st : List PV} {k : Nat} (h : (st.map pcat).sum ≤ k) : ((st.map (mv G)).map fun v => v.category).sum ≤ k := by
  have : ((st.map (mv G)).map fun v => v.category).sum = (st.map pcat).sum := by rw [List.map_map]; congr 1; exact List.map_congr_left (fun v _ => mv_cat G v)
  omega
/-- an instance method, by its receiver's own class -/
theorem e_invV {r : Nat} {as : List PV} (hd : decode (mC μ) pc = .ok (.invokevirtual idx, 3)) (hok : mOK μ' n) (hw : Cond.methodLink (mO μ) idx (mY μ') ∈ lw_t2 ∧ Cond.instanceMethod (mY μ') ∈ lw_t2 ∧ Cond.selects (mY μ').cls (mY μ') (mY μ') ∈ lw_t2) (hk : mK μ' < mK μ ∧ mL μ' + mW μ' + 19 ≤ mW μ) (hlen : ((vR r :: as).map pcat).sum ≤ mL μ') (hn : as.length = n) (hst : (st.map pcat).sum ≤ 8)
    (hci : ci < 11 ∧ clC ci = (mY μ').cls) (ht : sT S r = ci + 1)
    (k : E G μ' 0 (lsArgs 0 (vR r :: as)) [] S I R Q') (kk : ∀ S' I' R' v, Q' S' I' R' v → E G μ (pc + 3) ls (retl v ++ st) S' I' R' Q) : E G μ pc ls ((vR r :: as).reverse ++ st) S I R Q := by
  refine e_callC hok hk hlen ?_ k kk
  intro p l e Rm s m args below meth c Hm locs cells slots lsM mc ms Qc o1 hC hM hsz hMet hR hf hp
  obtain ⟨h1, h2⟩ := tag_in o1 ht
  have hwr := wsOf_get G I R h1 h2
  rw [ht, cellE_cls G hci.1] at hwr
  have hts := hC.2.2.2.2.1
  have hrecv := va_recv hC.2.2.2.2.2.2.2.2.1 hM.1 (clOK_all ci hci.1).1 hwr
  rw [hci.2] at hrecv
  have hgood : GoodIn lw_t2 (wsV (mO μ) idx (mY μ').cls (mY μ') (wsM μ')) := fun w hw' => by
    unfold wsV at hw'
    rcases List.mem_append.mp hw' with h | h
    · simp only [List.mem_cons, List.not_mem_nil, or_false] at h
      rcases h with rfl | rfl | rfl | rfl
      · exact good_in hw.1
      · exact good_in hw.2.1
      · exact good_in hw.2.2
      · exact good_in hok.2.2.2.2.2
    · exact good_ws hok w h
  have hcw : CallW Rm s args (mO μ) (mY μ').cls idx (mY μ') (mC μ') (mL μ') (mR μ') (wsM μ') (rmM μ' mc ms) mc ms n := cwV n hts hgood rfl rfl rfl ⟨rfl, hok.2.2.2.1⟩ hR
  have hmv : mv G (vR r) = .ref (gB G + (r - 1)) := mv_ref G h1
  have hrun := va_runV (l := l) (e := e) (below := below) (meth := meth) (locs := locs) (cells := cells) (slots := slots) (As := as.map (mv G)) (rest := st.map (mv G)) (b := gB G + (r - 1)) (g := F0 m pc lsM ((as.map (mv G)).reverse ++ .ref (gB G + (r - 1)) :: st.map (mv G))) ⟨hC.1, hC.2.1, hC.2.2.1, hC.2.2.2.1, hts⟩ hMet hcw ⟨hp.1, hrecv, fun U hU hW => by
    have := hp.2 U hU hW
    rw [List.map_cons, hmv] at this
    exact this⟩ rfl (by rw [List.length_map]; exact hn) hsz rfl (lv_room (by have := cat_sum G hst; omega)) hd hf
  rw [show ((vR r :: as).reverse ++ st).map (mv G) = (as.map (mv G)).reverse ++ .ref (gB G + (r - 1)) :: st.map (mv G) by simp [← hmv], show ((vR r :: as).map (mv G)).toArray = (Value.ref (gB G + (r - 1)) :: as.map (mv G)).toArray by rw [List.map_cons, hmv]]
  exact hrun
theorem e_invS {as : List PV} (hd : decode (mC μ) pc = .ok (.invokestatic idx, 3)) (hok : mOK μ' n) (hw : Cond.methodLink (mO μ) idx (mY μ') ∈ lw_t2 ∧ Cond.static (mY μ') ∈ lw_t2) (hk : mK μ' < mK μ ∧ mL μ' + mW μ' + 19 ≤ mW μ) (hlen : (as.map pcat).sum ≤ mL μ') (hn : as.length = n) (hst : (st.map pcat).sum ≤ 8)
    (k : E G μ' 0 (lsArgs 0 as) [] S I R Q') (kk : ∀ S' I' R' v, Q' S' I' R' v → E G μ (pc + 3) ls (retl v ++ st) S' I' R' Q) : E G μ pc ls (as.reverse ++ st) S I R Q := by
  refine e_callC hok hk hlen ?_ k kk
  intro p l e Rm s m args below meth c Hm locs cells slots lsM mc ms Qc o1 hC hM hsz hMet hR hf hp
  have hts := hC.2.2.2.2.1
  have hgood : GoodIn lw_t2 (va_wsS (mO μ) idx (mY μ') (wsM μ')) := fun w hw' => by
    unfold va_wsS at hw'
    rcases List.mem_append.mp hw' with h | h
    · simp only [List.mem_cons, List.not_mem_nil, or_false] at h
      rcases h with rfl | rfl | rfl
      · exact good_in hw.1
      · exact good_in hw.2
      · exact good_in hok.2.2.2.2.2
    · exact good_ws hok w h
  have hcw := va_cwS (R := Rm) (args := args) (rm := rmM μ' mc ms) (mc := mc) (ms := ms) n hts hgood rfl rfl rfl hok.2.2.2.1 hR
  have hrun := va_runS (l := l) (e := e) (below := below) (meth := meth) (locs := locs) (cells := cells) (slots := slots) (As := as.map (mv G)) (rest := st.map (mv G)) (g := F0 m pc lsM ((as.map (mv G)).reverse ++ st.map (mv G))) ⟨hC.1, hC.2.1, hC.2.2.1, hC.2.2.2.1, hts⟩ hMet hcw hp rfl (by rw [List.length_map]; exact hn) hsz rfl (lv_room (by have := cat_sum G hst; omega)) hd hf
  rw [show (as.reverse ++ st).map (mv G) = (as.map (mv G)).reverse ++ st.map (mv G) by simp]
  exact hrun
theorem e_invI {r : Nat} {as : List PV} (hd : decode (mC μ) pc = .ok (.invokespecial idx, 3)) (hok : mOK μ' n) (hw : Cond.methodLink (mO μ) idx (mY μ') ∈ lw_t2 ∧ Cond.instanceMethod (mY μ') ∈ lw_t2) (hin : (mY μ').name = "<init>" ∧ mR μ' = none) (hk : mK μ' < mK μ ∧ mL μ' + mW μ' + 19 ≤ mW μ) (hlen : ((vR r :: as).map pcat).sum ≤ mL μ') (hn : as.length = n) (hst : (st.map pcat).sum ≤ 8) (hr : sT S r ≠ 0)
    (k : E G μ' 0 (lsArgs 0 (vR r :: as)) [] S I R Q') (kk : ∀ S' I' R' v, Q' S' I' R' v → E G μ (pc + 3) ls (retl v ++ st) S' I' R' Q) : E G μ pc ls ((vR r :: as).reverse ++ st) S I R Q := by
  refine e_callC hok hk hlen ?_ k kk
  intro p l e Rm s m args below meth c Hm locs cells slots lsM mc ms Qc o1 hC hM hsz hMet hR hf hp
  have hts := hC.2.2.2.2.1
  have h1 := (o1.2 r hr).1
  have hmv : mv G (vR r) = .ref (gB G + (r - 1)) := mv_ref G h1
  have hret : wsM μ' = Cond.code (mY μ') (mC μ') (mL μ') none :: lw_t2 := by unfold wsM; rw [hin.2]
  have hcw := cwI (R := Rm) (args := args) (own := mO μ) (index := idx) (rm := rmM μ' mc ms) (mc := mc) (ms := ms) n hts (good_ws hok) hret rfl rfl (hts _ hok.2.2.2.2.2) (hts _ hw.1) (hts _ hw.2) hin.1 hok.2.2.2.1 hR
  have hrun := va_runI (l := l) (e := e) (below := below) (meth := meth) (locs := locs) (cells := cells) (slots := slots) (As := as.map (mv G)) (rest := st.map (mv G)) (b := gB G + (r - 1)) (g := F0 m pc lsM ((as.map (mv G)).reverse ++ .ref (gB G + (r - 1)) :: st.map (mv G))) ⟨hC.1, hC.2.1, hC.2.2.1, hC.2.2.2.1, hts⟩ hMet hcw ⟨hp.1, fun U hU hW => by
    have := hp.2 U hU hW
    rw [List.map_cons, hmv] at this
    exact this⟩ rfl (by rw [List.length_map]; exact hn) hsz rfl (lv_room (by have := cat_sum G hst; omega)) hd hf
  rw [show ((vR r :: as).reverse ++ st).map (mv G) = (as.map (mv G)).reverse ++ .ref (gB G + (r - 1)) :: st.map (mv G) by simp [← hmv], show ((vR r :: as).map (mv G)).toArray = (Value.ref (gB G + (r - 1)) :: as.map (mv G)).toArray by rw [List.map_cons, hmv]]
  exact hrun
end CL
end
section
/-! ===== THE WALK: calls across the nest, Object's constructor, the script; the law's end ===== -/
section NE
variable {G : Gl} {μ μ' : MB} {pc pc2 : Nat} {ls ls2 : Lc} {st st2 as : List PV} {S S2 : Sh} {I I2 : MI} {R R2 : MR} {Q Q' : PQ} {idx ci f a n : Nat} {i x y : Int}
theorem e_invSN {host : String} {as : List PV} (hd : decode (mC μ) pc = .ok (.invokestatic idx, 3)) (hok : mOK μ' n) (hw : Cond.methodLinkNest (mO μ) idx (mY μ') host ∈ lw_n ∧ Cond.static (mY μ') ∈ lw_t2) (hk : mK μ' < mK μ ∧ mL μ' + mW μ' + 19 ≤ mW μ) (hlen : (as.map pcat).sum ≤ mL μ') (hn : as.length = n) (hst : (st.map pcat).sum ≤ 8)
    (k : E G μ' 0 (lsArgs 0 as) [] S I R Q') (kk : ∀ S' I' R' v, Q' S' I' R' v → E G μ (pc + 3) ls (retl v ++ st) S' I' R' Q) : E G μ pc ls (as.reverse ++ st) S I R Q := by
  refine e_callC hok hk hlen ?_ k kk
  intro p l e Rm s m args below meth c Hm locs cells slots lsM mc ms Qc o1 hC hM hsz hMet hR hf hp
  have hts := hC.2.2.2.2.1
  have hEx := hC.2.2.2.2.2.2.2.2.2.2.2.2.2.2.2.2
  have hcw := va_cnB (R := Rm) (args := args) (rm := rmM μ' mc ms) (mc := mc) (ms := ms) n hts (good_ws hok) rfl rfl rfl (hEx.1.1 _ hw.1) (hts _ hok.2.2.2.2.2) hok.2.2.2.1 hR
  have hrun := va_runSN (l := l) (e := e) (below := below) (meth := meth) (locs := locs) (cells := cells) (slots := slots) (As := as.map (mv G)) (rest := st.map (mv G)) (g := F0 m pc lsM ((as.map (mv G)).reverse ++ st.map (mv G))) ⟨hC.1, hC.2.1, hC.2.2.1, hC.2.2.2.1, hts⟩ hMet ⟨hcw, hts _ hw.2, trivial⟩ hp rfl (by rw [List.length_map]; exact hn) hsz rfl (lv_room (by have := cat_sum G hst; omega)) hd hf
  rw [show (as.reverse ++ st).map (mv G) = (as.map (mv G)).reverse ++ st.map (mv G) by simp]
  exact hrun
theorem e_invIN {host : String} {r : Nat} {as : List PV} (hd : decode (mC μ) pc = .ok (.invokespecial idx, 3)) (hok : mOK μ' n) (hw : Cond.methodLinkNest (mO μ) idx (mY μ') host ∈ lw_n ∧ Cond.instanceMethod (mY μ') ∈ lw_t2) (hin : (mY μ').name = "<init>" ∧ mR μ' = none) (hk : mK μ' < mK μ ∧ mL μ' + mW μ' + 19 ≤ mW μ) (hlen : ((vR r :: as).map pcat).sum ≤ mL μ') (hn : as.length = n) (hst : (st.map pcat).sum ≤ 8) (hr : sT S r ≠ 0)
    (k : E G μ' 0 (lsArgs 0 (vR r :: as)) [] S I R Q') (kk : ∀ S' I' R' v, Q' S' I' R' v → E G μ (pc + 3) ls (retl v ++ st) S' I' R' Q) : E G μ pc ls ((vR r :: as).reverse ++ st) S I R Q := by
  refine e_callC hok hk hlen ?_ k kk
  intro p l e Rm s m args below meth c Hm locs cells slots lsM mc ms Qc o1 hC hM hsz hMet hR hf hp
  have hts := hC.2.2.2.2.1
  have hEx := hC.2.2.2.2.2.2.2.2.2.2.2.2.2.2.2.2
  have h1 := (o1.2 r hr).1
  have hmv : mv G (vR r) = .ref (gB G + (r - 1)) := mv_ref G h1
  have hret : wsM μ' = Cond.code (mY μ') (mC μ') (mL μ') none :: lw_t2 := by unfold wsM; rw [hin.2]
  have hcw := va_cnB (R := Rm) (args := args) (rm := rmM μ' mc ms) (mc := mc) (ms := ms) n hts (good_ws hok) hret rfl rfl (hEx.1.1 _ hw.1) (hts _ hok.2.2.2.2.2) hok.2.2.2.1 hR
  have hrun := va_runIN (l := l) (e := e) (below := below) (meth := meth) (locs := locs) (cells := cells) (slots := slots) (As := as.map (mv G)) (rest := st.map (mv G)) (b := gB G + (r - 1)) (g := F0 m pc lsM ((as.map (mv G)).reverse ++ .ref (gB G + (r - 1)) :: st.map (mv G))) ⟨hC.1, hC.2.1, hC.2.2.1, hC.2.2.2.1, hts⟩ hMet ⟨hcw, hin.1, hts _ hw.2⟩ ⟨hp.1, fun U hU hW => by
    have := hp.2 U hU hW
    rw [List.map_cons, hmv] at this
    exact this⟩ rfl (by rw [List.length_map]; exact hn) hsz rfl (lv_room (by have := cat_sum G hst; omega)) hd hf
  rw [show ((vR r :: as).reverse ++ st).map (mv G) = (as.map (mv G)).reverse ++ .ref (gB G + (r - 1)) :: st.map (mv G) by simp [← hmv], show ((vR r :: as).map (mv G)).toArray = (Value.ref (gB G + (r - 1)) :: as.map (mv G)).toArray by rw [List.map_cons, hmv]]
  exact hrun
theorem e_objI {r : Nat} (hd : decode (mC μ) pc = .ok (.invokespecial idx, 3)) (hw : Cond.methodLink (mO μ) idx Lib.objectInit ∈ lw_t2 ∧ Cond.instanceMethod Lib.objectInit ∈ lw_t2 ∧ Cond.code Lib.objectInit ⟨#[0xb1]⟩ 1 none ∈ lw_t2) (hk : 1 ≤ mK μ ∧ 40 ≤ mW μ) (hst : (st.map pcat).sum ≤ 8) (hr : sT S r ≠ 0) (k : E G μ (pc + 3) ls st S I R Q) : E G μ pc ls (vR r :: st) S I R Q := by
  refine e_go (fun _ _ h => vok_tl h) (fun p l e Rm s m args below meth c Hm locs cells slots lsM Z o1 _ _ o4 hC hx hb hF kk => ?_) k
  have hts := hC.2.2.2.2.1
  have h1 := (o1.2 r hr).1
  have hfr := hC.2.2.2.2.2.2.2.2.2.2.1
  have hlo := hC.2.2.2.2.2.2.2.2.2.2.2.1
  rw [List.map_cons, mv_ref G h1]
  refine W.objInit hx hb hC.2.2.2.1 (hts _ hw.1) (hts _ hw.2.1) (hts _ hw.2.2) rfl (by rw [hC.2.2.1]; exact hF.1.1) rfl hd (by omega) ?_ kk
  have := cat_sum G hst
  show 2 * 0 + _ + 12 ≤ _
  omega
theorem e_slen (hd : decode (mC μ) pc = .ok (.arraylength, 1)) (k : E G μ (pc + 1) ls (vI (gL G : Int) :: st) S I R Q) (hL : gL G ≤ 260) : E G μ pc ls (vS :: st) S I R Q := by
  refine e_go (fun _ _ h => vok_cons (v := vI _) (by show InR _; unfold InR; omega) (vok_tl h)) (fun p l e Rm s m args below meth c Hm locs cells slots lsM Z o1 _ _ o4 hC hx hb hF kk => ?_) k
  have hbs := hC.2.2.2.2.2.2.2.2.2.2.2.2.1
  have hbb := hC.2.2.2.2.2.2.2.2.2.2.2.2.2.1
  have hX := hC.2.2.2.2.2.2.2.2.2.2.2.2.2.2.1
  exact va_slen hx hb hX (Nat.lt_of_lt_of_le hbb hbs) (Nat.not_le.mpr hbb) hF.2.2 hd kk
theorem e_sld (hd : decode (mC μ) pc = .ok (.iaload, 1)) (hi : 0 ≤ i ∧ i < (gL G : Int)) (k : E G μ (pc + 1) ls (vI (gX G i.toNat).toInt :: st) S I R Q) : E G μ pc ls (vI i :: vS :: st) S I R Q := by
  refine e_go (fun _ _ h => vok_cons (v := vI _) (InR_toInt _) (vok_tl (vok_tl h))) (fun p l e Rm s m args below meth c Hm locs cells slots lsM Z o1 _ _ o4 hC hx hb hF kk => ?_) k
  have hbs := hC.2.2.2.2.2.2.2.2.2.2.2.2.1
  have hbb := hC.2.2.2.2.2.2.2.2.2.2.2.2.2.1
  have hX := hC.2.2.2.2.2.2.2.2.2.2.2.2.2.2.1
  have hii : InR i := vok_hd o4
  refine va_sld (i := Int32.ofInt i) hx hb hX (Nat.lt_of_lt_of_le hbb hbs) (Nat.not_le.mpr hbb) hF.2.2 (in_of hii hi) hd ?_
  rw [cl_of hii]
  have : mv G (vI (gX G i.toNat).toInt) = .int (gX G i.toNat) := congrArg Value.int (Int32.ofInt_toInt _)
  rw [List.map_cons, this] at kk
  exact kk
end NE
-- the typed ends of methods
abbrev qI (Q : Sh → MI → MR → Int → Prop) : PQ := fun S I R v => ∃ x, v = vI x ∧ Q S I R x
abbrev qR (Q : Sh → MI → MR → Nat → Prop) : PQ := fun S I R v => ∃ r, v = vR r ∧ Q S I R r
abbrev qV (Q : Sh → MI → MR → Prop) : PQ := fun S I R v => v = vS ∧ Q S I R
def CI (G : Gl) (μ : MB) (as : List PV) (S : Sh) (I : MI) (R : MR) (Q : Sh → MI → MR → Int → Prop) : Prop := E G μ 0 (lsArgs 0 as) [] S I R (qI Q)
def CR (G : Gl) (μ : MB) (as : List PV) (S : Sh) (I : MI) (R : MR) (Q : Sh → MI → MR → Nat → Prop) : Prop := E G μ 0 (lsArgs 0 as) [] S I R (qR Q)
def CV (G : Gl) (μ : MB) (as : List PV) (S : Sh) (I : MI) (R : MR) (Q : Sh → MI → MR → Prop) : Prop := E G μ 0 (lsArgs 0 as) [] S I R (qV Q)
theorem CI.mono {G : Gl} {μ : MB} {as : List PV} {S : Sh} {I : MI} {R : MR} {Q Q' : Sh → MI → MR → Int → Prop} (h : CI G μ as S I R Q) (hq : ∀ S' I' R' x, Q S' I' R' x → Q' S' I' R' x) : CI G μ as S I R Q' :=
  E.mono h (fun _ _ _ _ ⟨x, hv, hx⟩ => ⟨x, hv, hq _ _ _ _ hx⟩)
theorem CR.mono {G : Gl} {μ : MB} {as : List PV} {S : Sh} {I : MI} {R : MR} {Q Q' : Sh → MI → MR → Nat → Prop} (h : CR G μ as S I R Q) (hq : ∀ S' I' R' x, Q S' I' R' x → Q' S' I' R' x) : CR G μ as S I R Q' :=
  E.mono h (fun _ _ _ _ ⟨x, hv, hx⟩ => ⟨x, hv, hq _ _ _ _ hx⟩)
theorem CV.mono {G : Gl} {μ : MB} {as : List PV} {S : Sh} {I : MI} {R : MR} {Q Q' : Sh → MI → MR → Prop} (h : CV G μ as S I R Q) (hq : ∀ S' I' R', Q S' I' R' → Q' S' I' R') : CV G μ as S I R Q' :=
  E.mono h (fun _ _ _ _ ⟨hv, hx⟩ => ⟨hv, hq _ _ _ hx⟩)
-- the law, walked: the class of the script and the start
abbrev R_law0 : String := RL
abbrev M_law : MB := (RL, yL_law, cL_law, 9, some .boolean, 13, 510)
def S0 : Sh := (1, 0, fun _ => 0, fun _ => 0)
def I0 : MI := fun _ _ => 0
def R0 : MR := fun _ _ => 0
end
section
-- ===== end of PART A; then your names; then what follows =====
/-! THE CLAIM OUT OF ONE WALK OF THE LAW'S BODY. Your part is whole_start (and what it stands on); all else here is the same for every law, but numbers. -/
def R_law : String := "StairsNearLaw"
def lw_P (b : Addr) (xs : List Int32) (args : Array Value) (s : State) : Prop := args = #[.ref b] ∧ s.IntsAt b xs ∧ xs.length ≤ 260 ∧ (Jvm.Cond.and given_1 narrow_1).before args s = true
def lw_Q (_ : Array Value) (s : State) (o : Outcome) (t : State) : Prop := o = .returned (some (.int 1)) ∧ Framed s o t [] 600000 7302250
def lw_Z (below : List Frame) (a : Array Value) (s : State) : State → Prop := fun t => ∃ o, t.status = .running ∧ Ended t below o ∧ lw_Q a s o t
/-- the law's own end, with 1 on the stack, nothing written that was there before, its room as the claim has it -/
theorem lw_ret {p : Program} {l : Launch} {e : Env} {s : State} {m : MethodId} {below : List Frame} {meth : Method} {c : Code} {b : Nat} (hx : p.tables.exec = Jvm.exec) (hb : c.code = code) (hr : meth.sig.returnType = ret) (hlocks : meth.locks = false) {pc : Nat} {H : Heap} {ls : Array Slot} (hdg : decode code pc = .ok (.ireturn, 1)) : W p l e room_1 s m #[Value.ref b] below meth c H [] 600000 7302250 (lw_Z below #[Value.ref b] s) (F0 m pc ls [.int 1]) := by
  intro T hT X
  obtain ⟨fs, hret, hrun, hended, hW, hframe⟩ := X.leave (v := some (.int 1)) (hlocks := hlocks) (fun h => by rw [hr] at h; cases h)
  have hmeth' : T.vm.method? m = some meth := X.method'
  refine ⟨T.setFrames fs, ?_, .returned (some (.int 1)), hrun, hended, rfl, ⟨_, rfl⟩, hW, hframe⟩
  jvm_step X.here [X.here.top, hx, hb, hdg, hmeth', hr, ret, narrow_b1]
  (try refine ⟨rfl, ?_⟩); (try refine ⟨rfl, ?_⟩)
  first | (intro acts; rw [hret _ acts rfl rfl rfl]) | rw [hret _ _ rfl rfl rfl]
  exact Steps.refl _
/-- what holds at the law's entry: the machine, the code, the tables' words (any of lw_tbl by 'hts w (by decide +kernel)'), the script of L ints xs at the cell b, what the Statement gives of the start (any of its parts by flat_of_before) -/
def lw_At (p : Program) (s : State) (m : MethodId) (meth : Method) (c : Code) (b L : Nat) (xs : Nat → Int32) : Prop :=
  p.tables.exec = Jvm.exec ∧ c.code = code ∧ meth.sig.returnType = ret ∧ c.maxLocals = 9 ∧ s.vm.findClass R_law = some m.cls ∧ (∀ w ∈ lw_tbl, w.before #[Value.ref b] s = true) ∧ va_X b L xs s s.heap ∧ b < s.heap.size ∧ meth.locks = false ∧ (Jvm.Cond.and given_1 narrow_1).before #[Value.ref b] s = true
theorem arr_ok {U : State} {args : Array Value} {ty : FieldType} (h : (Cond.arrayClass ty).before args U = true) (ho : ∀ C, ty ≠ .object C) : ∃ cA : ClassId, ArrOfT U cA ty ∧ va_RA U cA ty := by
  obtain ⟨c, k, comp, h1, h2, h3⟩ := Cond.arrayClass_spec h
  refine ⟨c, fun N z => ⟨(fun q hq => by cases hq), k, h2, comp, h3⟩, ?_⟩
  cases ty <;> first | exact h1 | exact absurd rfl (ho _)
theorem arr_okO {U : State} {args : Array Value} {C : String} (h : (Cond.arrayOver (.object C)).before args U = true) : ∃ cA : ClassId, ArrOfT U cA (.object C) ∧ va_RA U cA (.object C) := by
  obtain ⟨comp, c, k, h1, h2, h3, h4, h5⟩ := Cond.arrayOver_spec h
  exact ⟨c, fun N z => ⟨(fun q hq => by cases hq), k, h3, comp, h4⟩, k, comp, h3, h4, h1, h5⟩
theorem arr_okA {U : State} {args : Array Value} {t : FieldType} (h : (Cond.arrayOver (.array t)).before args U = true) : ∃ cA : ClassId, ArrOfT U cA (.array t) ∧ va_RA U cA (.array t) := by
  obtain ⟨comp, c, k, h1, h2, h3, h4, h5⟩ := arrayOverA_spec h
  exact ⟨c, fun N z => ⟨(fun q hq => by cases hq), k, h3, comp, h4⟩, h5⟩
def QL : PQ := fun S' _ _ v => v = vI 1 ∧ sN S' ≤ 600000 ∧ sU S' ≤ 7302250
/-- a private method of the class above is the one that is taken -/
theorem sel_up {C : String} {x0 y0 y : MethodName} {s : State} {args : Array Value} (hcls : y.cls = y0.cls) (hy : y.cls ≠ "java/lang/invoke/MethodHandle" ∧ y.cls ≠ "java/lang/invoke/VarHandle") (h0 : (Cond.selects C x0 y0).before args s = true) (hpriv : (Cond.privateMethod y).before args s = true) (hinst : (Cond.instanceMethod y).before args s = true) : (Cond.selects C y y).before args s = true := by
  obtain ⟨c, r, m0, hc, -, hm0, -, k, hk, hki⟩ := Cond.selects_spec h0
  obtain ⟨mk, methM, hnamed, hmethM, -, -⟩ := Cond.instanceMethod_spec hinst
  have hfound : s.methodFound? y.cls y.name y.desc = some mk := State.methodFound?_of_named hnamed hy
  have h1 := findClass_of_methodNamed hnamed
  have h2 := findClass_of_methodNamed hm0
  rw [← hcls] at h2
  have hc2 : mk.cls = m0.cls := Option.some.inj (h1.symm.trans h2)
  have hsel : selectMethod {} s.vm c mk = .method mk := selectMethod_private hmethM (Cond.privateMethod_at hpriv mk methM hnamed hmethM)
  simp only [Cond.before, Cond.holds, Cond.value, hc, hfound, hnamed, hsel, hc2, hk]
  simp
  exact hki
theorem lw_xok : ∀ y ∈ [yJ5_newCapacity_0f7a4, yJ5_inflateIfNeededFor_a7421, yJ5_ensureCapacityInternal_d00df, yJ5_putStringAt_47b60], y.cls = yJ5_isLatin1_aae02.cls ∧ (y.cls ≠ "java/lang/invoke/MethodHandle" ∧ y.cls ≠ "java/lang/invoke/VarHandle") ∧ Cond.privateMethod y ∈ lw_tbl ∧ Cond.instanceMethod y ∈ lw_tbl := by decide +kernel
theorem lw_isL : Cond.selects RJ4 yJ5_isLatin1_aae02 yJ5_isLatin1_aae02 ∈ lw_tbl := by decide +kernel
theorem lw_all {s : State} {args : Array Value} (hts : ∀ w ∈ lw_tbl, w.before args s = true) : ∀ w ∈ lw_t2, w.before args s = true := by
  intro w hw
  rcases List.mem_append.mp hw with h | h
  · exact hts w (List.mem_filter.mp h).1
  · obtain ⟨y, hy, rfl⟩ := List.mem_map.mp h
    obtain ⟨h1, h2, h3, h4⟩ := lw_xok y hy
    exact sel_up h1 h2 (hts _ lw_isL) (hts _ h3) (hts _ h4)
theorem vk_S_congr {len : List Nat} {byt : List (List Int32)} {k1 v1 k2 v2 : Nat → Nat} {A : Nat → Prop} {U : State} {H : Heap} (h : vk_S 6 len byt k1 v1 A U H) (hk : ∀ i, i < 6 → k2 i = k1 i ∧ v2 i = v1 i) : vk_S 6 len byt k2 v2 A U H := by
  refine ⟨fun i hi => ?_, fun i j hi hj e => h.2 i j hi hj (by rw [← (hk i hi).1, ← (hk j hj).1]; exact e)⟩
  rw [(hk i hi).1, (hk i hi).2]
  exact h.1 i hi
def cF : List Cond := flatC (Jvm.Cond.and given_1 narrow_1)
def tmL (i : Nat) : Term := Term.string RL (litIx.getD i 0)
theorem lit_ex : ∀ i, i < 6 → Cond.exactly (tmL i) "java/lang/String" ∈ cF := by decide +kernel
theorem lit_co : ∀ i, i < 6 → Cond.eq (.field (tmL i) "java/lang/String" "coder" "B") (.int 0) ∈ cF := by decide +kernel
theorem lit_ar : ∀ i, i < 6 → Cond.arrayOf (.field (tmL i) "java/lang/String" "value" "[B") .byte ∈ cF := by decide +kernel
theorem lit_le : ∀ i, i < 6 → Cond.eq (.length (.field (tmL i) "java/lang/String" "value" "[B")) (.int (Int32.ofNat (litLen.getD i 0))) ∈ cF := by decide +kernel
theorem lit_el : ∀ i, i < 6 → ∀ j, j < litLen.getD i 0 → Cond.eq (.elem (.field (tmL i) "java/lang/String" "value" "[B") (.int (Int32.ofNat j))) (.int ((litByt.getD i []).getD j 0)) ∈ cF := by decide +kernel
theorem lit_ne : ∀ i, i < 6 → ∀ j, j < 6 → i ≠ j → Cond.not (Cond.eq (tmL i) (tmL j)) ∈ cF ∨ Cond.not (Cond.eq (tmL j) (tmL i)) ∈ cF := by decide +kernel
theorem lit_rf : ∀ i, i < 6 → Cond.stringRef RL (litIx.getD i 0) (litTx.getD i "") ∈ lw_tbl := by decide +kernel
theorem digOnes_ar : Cond.arrayOf (.static "java/lang/Integer" "DigitOnes" "[B") .byte ∈ cF := by decide +kernel
theorem digOnes_le : Cond.eq (.length (.static "java/lang/Integer" "DigitOnes" "[B")) (.int 100) ∈ cF := by decide +kernel
theorem digOnes_el : ∀ j, j < 100 → Cond.eq (.elem (.static "java/lang/Integer" "DigitOnes" "[B") (.int (Int32.ofNat j))) (.int (Int32.ofNat (48 + j % 10))) ∈ cF := by decide +kernel
theorem compact_eq : Cond.eq (.static "java/lang/String" "COMPACT_STRINGS" "Z") (.int 1) ∈ cF := by decide +kernel
theorem former_is : Cond.isRef (.static "jdk/internal/util/Preconditions" "SIOOBE_FORMATTER" "Ljava/util/function/BiFunction;") ∈ cF := by decide +kernel
theorem whole_of_E (hE : ∀ G : Gl, gL G ≤ 260 → E G M_law 0 (lsArgs 0 [vS]) [] S0 I0 R0 QL) {p : Program} {e : Env} {s : State} {m : MethodId} {below : List Frame} {meth : Method} {c : Code} (l : Launch) (hflags : l.flags = flags0) {b L : Nat} {xs : Nat → Int32} (hL : L ≤ 260) (C0 : lw_At p s m meth c b L xs) : W p l e room_1 s m #[Value.ref b] below meth c s.heap [] 0 0 (lw_Z below #[Value.ref b] s) (entryFrame m ([Value.ref b] : List Value).toArray 9) := by
  obtain ⟨hx, hb, hr, hml, hown, hts, hX, hbl, hlocks, hgv⟩ := id C0
  have kn : ∀ ci, ci < 11 → ∃ (cC : ClassId) (iS : Nat → Nat), u_Kn s (clC ci) (clT ci) (clN ci) cC iS := fun ci hci => u_known (n := clN ci) (lw_all hts) (fun w hw => (clOK_all ci hci).2.1 w hw) (hts (.instantiable (clC ci) (clN ci)) (by
    have : ∀ ci, ci < 11 → Cond.instantiable (clC ci) (clN ci) ∈ lw_tbl := by decide +kernel
    exact this ci hci))
  obtain ⟨dC, hdC⟩ : ∃ dC : Nat → ClassId, ∀ ci, ci < 11 → ∃ iS : Nat → Nat, u_Kn s (clC ci) (clT ci) (clN ci) (dC ci) iS :=
    ⟨fun ci => if h : ci < 11 then Classical.choose (kn ci h) else 0, fun ci h => by simp only [h, dif_pos]; exact Classical.choose_spec (kn ci h)⟩
  obtain ⟨dI, hdI⟩ : ∃ dI : Nat → Nat → Nat, ∀ ci, ci < 11 → u_Kn s (clC ci) (clT ci) (clN ci) (dC ci) (dI ci) :=
    ⟨fun ci => if h : ci < 11 then Classical.choose (hdC ci h) else fun _ => 0, fun ci h => by simp only [h, dif_pos]; exact Classical.choose_spec (hdC ci h)⟩
  obtain ⟨a0, ha0⟩ := arr_ok (hts (.arrayClass .int) (by decide +kernel)) (fun _ h => by cases h)
  obtain ⟨a1, ha1⟩ := arr_ok (hts (.arrayClass .byte) (by decide +kernel)) (fun _ h => by cases h)
  have w3 := hts (.arrayOver (.object RX5)) (by decide +kernel)
  have w4 := hts (.arrayOver (.object RX1)) (by decide +kernel)
  have w5 := hts (.arrayOver (.object RX2)) (by decide +kernel)
  have w6 := hts (.arrayOver (.array .int)) (by decide +kernel)
  obtain ⟨a3, ha3⟩ := arr_okO w3
  obtain ⟨a4, ha4⟩ := arr_okO w4
  obtain ⟨a5, ha5⟩ := arr_okO w5
  obtain ⟨a6, ha6⟩ := arr_okA w6
  have hK : va_K (dC, dI) vwCl [(a0, .int), (a1, .byte), (a0, .int), (a3, .object RX5), (a4, .object RX1), (a5, .object RX2), (a6, .array .int)] s := by
    refine ⟨fun k q hq => ?_, fun k q hq => ?_⟩
    · have hk : k < 11 := (List.getElem?_eq_some_iff.mp hq).1
      have h1 := (clOK_all k hk).1
      rw [hq] at h1
      cases Option.some.inj h1
      exact hdI k hk
    · match k, hq with
      | 0, hq => cases hq; exact ha0
      | 1, hq => cases hq; exact ha1
      | 2, hq => cases hq; exact ha0
      | 3, hq => cases hq; exact ha3
      | 4, hq => cases hq; exact ha4
      | 5, hq => cases hq; exact ha5
      | 6, hq => cases hq; exact ha6
      | k + 7, hq => simp at hq
  have hfl := flat_of_before _ hgv
  have hAo : ∀ a : Nat, a < s.heap.size → ¬ s.heap.size ≤ a := fun a h1 h2 => by omega
  obtain ⟨adK, adV, hvS, hvE⟩ := vk_Sof (args := #[Value.ref b]) (s := s) (N := 6) (tm := tmL) (len := litLen) (byt := litByt) (A := fun q => s.heap.size ≤ q) (by decide +kernel) (fun i hi => hfl _ (lit_ex i hi)) (fun i hi => hfl _ (lit_co i hi)) (fun i hi => hfl _ (lit_ar i hi)) (fun i hi => hfl _ (lit_le i hi)) (fun i hi j hj => hfl _ (lit_el i hi j hj)) (fun i j hi hj hij => (lit_ne i hi j hj hij).imp (hfl _) (hfl _)) hAo
  have hvC : va_Z "java/lang/String" "COMPACT_STRINGS" "Z" (.int 1) (fun q => s.heap.size ≤ q) s s.heap := va_Zof (hts _ (by decide +kernel)) (hts _ (by decide +kernel)) (va_eqi (hfl _ compact_eq)) hAo
  obtain ⟨tF, htF⟩ : ∃ o : Option Nat, va_Z "jdk/internal/util/Preconditions" "SIOOBE_FORMATTER" "Ljava/util/function/BiFunction;" (va_rf o) (fun q => s.heap.size ≤ q) s s.heap := by
    obtain ⟨v, hv, hr⟩ := Cond.isRef_spec (hfl _ former_is)
    have hz := va_Zof (A := fun q => s.heap.size ≤ q) (v := v) (hts (.laysStatic "jdk/internal/util/Preconditions" "SIOOBE_FORMATTER" "Ljava/util/function/BiFunction;") (by decide +kernel)) (hts (.initialized "jdk/internal/util/Preconditions") (by decide +kernel)) hv hAo
    cases v with
    | null => exact ⟨none, hz⟩
    | ref a => exact ⟨some a, hz⟩
    | _ => cases hr
  obtain ⟨tD, htD, hTD⟩ := va_Tof (args := #[Value.ref b]) (s := s) (tm := .static "java/lang/Integer" "DigitOnes" "[B") (ty := .byte) (N := 100) (f := fun j => .int (Int32.ofNat (48 + j % 10))) (A := fun q => s.heap.size ≤ q) (by decide +kernel) (hfl _ digOnes_ar) (va_eqt (hfl _ digOnes_le)) (fun j hj => va_eqt (hfl _ (digOnes_el j hj))) hAo
  have hZD : va_Z "java/lang/Integer" "DigitOnes" "[B" (.ref tD) (fun q => s.heap.size ≤ q) s s.heap := va_Zof (hts (.laysStatic "java/lang/Integer" "DigitOnes" "[B") (by decide +kernel)) (hts (.initialized "java/lang/Integer") (by decide +kernel)) htD hAo
  obtain ⟨gAf, hgA⟩ : ∃ f : Nat → Option Nat, f = fun k => if k < 6 then some (adK k) else if k < 12 then some (adV (k - 6)) else if k = 12 then tF else some tD := ⟨_, rfl⟩
  generalize hG : ((s.heap.size, b, L, xs, (dC, dI), [(a0, .int), (a1, .byte), (a0, .int), (a3, .object RX5), (a4, .object RX1), (a5, .object RX2), (a6, .array .int)], gAf) : Gl) = G
  have gB1 : gB G = s.heap.size := by rw [← hG]; rfl
  have gb1 : gb G = b := by rw [← hG]; rfl
  have gL1 : gL G = L := by rw [← hG]; rfl
  have gX1 : gX G = xs := by rw [← hG]; rfl
  have gK1 : va_K (gD G) vwCl (gT G) s := by rw [← hG]; exact hK
  have gT1 : (gT G).map Prod.snd = atyL := by rw [← hG]; rfl
  have o1 : okS S0 := ⟨Nat.le_refl _, fun a ha => absurd rfl ha⟩
  have o2 : okI S0 I0 := fun a j => irng0 _
  obtain ⟨S', I', R', v, ⟨rfl, hN, hU⟩, p1, p2, p3, hrun⟩ := hE G (by rw [gL1]; exact hL) o1 o2 (lok_args 0 [vS] (fun _ _ => by simp_all [vok])) (fun _ h => by cases h)
  have hl := lv_entry ([Value.ref b] : List Value) (n := 9) (Nat.le_of_ble_eq_true rfl)
  rw [lg_entry_eq]
  have gO1 : ∀ k, gO G (k + 1) = gAf k := by intro k; rw [← hG]; rfl
  have hEx : ExW G s s.heap := by
    refine ⟨⟨fun w hw => ?_, w3, w4, w5, w6, va_Nw.of rfl (hts (.castable "[B" "java/lang/Cloneable") (by decide +kernel))⟩, ?_⟩
    rotate_left
    · unfold va_Old
      rw [gB1]
      refine ⟨vk_S_congr hvS (fun i hi => ?_), fun i hi => ?_, hvC, ?_, ?_, ?_, fun k hk hk2 => ?_⟩
      · refine ⟨?_, ?_⟩
        · unfold gA
          rw [gO1, hgA]
          simp only [if_pos hi, Option.getD_some]
        · unfold gA
          rw [show i + 7 = (i + 6) + 1 by omega, gO1, hgA]
          simp only [if_neg (show ¬ i + 6 < 6 by omega), if_pos (show i + 6 < 12 by omega), Option.getD_some, Nat.add_sub_cancel]
      · have e9 : gA G (i + 1) = adK i := by
          unfold gA
          rw [gO1, hgA]
          simp only [if_pos hi, Option.getD_some]
        rw [e9]
        exact vk_R.of (hts _ (lit_rf i hi)) (hvE i hi)
      · have e9 : mv G (vO 13) = va_rf tF := by
          show va_rf (gO G (12 + 1)) = _
          rw [gO1, hgA]
          rfl
        rw [e9]
        exact htF
      · have e9 : gA G 14 = tD := by
          show (gO G (13 + 1)).getD 0 = tD
          rw [gO1, hgA]
          rfl
        rw [e9]
        exact hZD
      · have e9 : gA G 14 = tD := by
          show (gO G (13 + 1)).getD 0 = tD
          rw [gO1, hgA]
          rfl
        rw [e9]
        exact hTD
      · rw [gO1, hgA]
        simp only []
        by_cases h1 : k < 6
        · exact ⟨_, if_pos h1⟩
        · rw [if_neg h1]
          by_cases h2 : k < 12
          · exact ⟨_, if_pos h2⟩
          · rw [if_neg h2, if_neg hk2]
            exact ⟨_, rfl⟩
    have h1 := List.mem_filter.mp hw
    have h2 := hts w h1.1
    have h3 := h1.2
    cases w with
    | methodLinkNest a i x hh => exact va_Nw.of rfl h2
    | _ => cases h3
  have hmls : lv_args 0 [Value.ref b] = mls G (lsArgs 0 [vS]) := by
    show [(0, Value.ref b)] = [(0, Value.ref (gb G))]
    rw [gb1]
  rw [hmls] at hl
  have hn1 : sN S0 = 1 := rfl
  have hu1 : sU S0 = 0 := rfl
  refine hrun.2.2 p l e room_1 s m #[Value.ref b] below meth c s.heap [] 0 0 _ _ ⟨hx, hb, hml, hown, lw_all hts, hr, hlocks, fun h => absurd h (by decide), gK1, gT1, by decide, by decide, by rw [gB1]; exact Nat.le_refl _, by rw [gb1, gB1]; exact hbl, by rw [gb1, gL1, gX1]; exact hX, by rw [gL1]; exact hL, hEx⟩ (by rw [hn1]; show _ ≤ 600000; omega) (by rw [hu1]; show _ ≤ 7302250; omega) ⟨hl, ⟨fun k q h => ?_, by rw [gB1]; rfl⟩, va_S.rf⟩ ?_
  · have : (wsOf G S0 I0 R0)[k]? = none := List.getElem?_eq_none (by rw [wsOf_len]; exact Nat.zero_le _)
    rw [this] at h
    cases h
  · intro Hm' locs' pc' ls' hM' hS' hret
    refine va_forget (fun q hq => by have := hS'.2.2 q hq; rw [gB1] at this; exact this) ?_
    refine W.widen (k := 600000) (n := 7302250) (by rw [hn1]; omega) (by rw [hu1]; omega) ?_
    rcases hret with ⟨x, hx1, hd, -⟩ | ⟨r, hx1, -⟩ | ⟨hx1, -⟩
    · cases hx1
      exact lw_ret hx hb hr hlocks hd
    · cases hx1
    · cases hx1
end
section
/-! ===== calls with their answers' types ===== -/
theorem bpos {c : Prop} [Decidable c] {A B : Prop} (hc : c) (h : if c then A else B) : A := by rwa [if_pos hc] at h
theorem bneg {c : Prop} [Decidable c] {A B : Prop} (hc : ¬ c) (h : if c then A else B) : B := by rwa [if_neg hc] at h
section WR
variable {G : Gl} {μ μ' : MB} {pc : Nat} {ls : Lc} {st stk as : List PV} {S : Sh} {I : MI} {R : MR} {Q : PQ} {idx ci n r : Nat} {host : String}
theorem i_VI (hs : (vR r :: as).reverse ++ st = stk) (hd : decode (mC μ) pc = .ok (.invokevirtual idx, 3)) (hok : mOK μ' n) (hw : Cond.methodLink (mO μ) idx (mY μ') ∈ lw_t2 ∧ Cond.instanceMethod (mY μ') ∈ lw_t2 ∧ Cond.selects (mY μ').cls (mY μ') (mY μ') ∈ lw_t2) (hk : mK μ' < mK μ ∧ mL μ' + mW μ' + 19 ≤ mW μ) (hlen : ((vR r :: as).map pcat).sum ≤ mL μ') (hn : as.length = n) (hst : (st.map pcat).sum ≤ 8) (hci : ci < 11 ∧ clC ci = (mY μ').cls) (ht : sT S r = ci + 1)
    (k : CI G μ' (vR r :: as) S I R (fun S' I' R' x => E G μ (pc + 3) ls (vI x :: st) S' I' R' Q)) : E G μ pc ls stk S I R Q := by
  subst hs
  exact e_invV hd hok hw hk hlen hn hst hci ht k (fun S' I' R' v ⟨x, hv, hx⟩ => by subst hv; exact hx)
theorem i_VV (hs : (vR r :: as).reverse ++ st = stk) (hd : decode (mC μ) pc = .ok (.invokevirtual idx, 3)) (hok : mOK μ' n) (hw : Cond.methodLink (mO μ) idx (mY μ') ∈ lw_t2 ∧ Cond.instanceMethod (mY μ') ∈ lw_t2 ∧ Cond.selects (mY μ').cls (mY μ') (mY μ') ∈ lw_t2) (hk : mK μ' < mK μ ∧ mL μ' + mW μ' + 19 ≤ mW μ) (hlen : ((vR r :: as).map pcat).sum ≤ mL μ') (hn : as.length = n) (hst : (st.map pcat).sum ≤ 8) (hci : ci < 11 ∧ clC ci = (mY μ').cls) (ht : sT S r = ci + 1)
    (k : CV G μ' (vR r :: as) S I R (fun S' I' R' => E G μ (pc + 3) ls st S' I' R' Q)) : E G μ pc ls stk S I R Q := by
  subst hs
  exact e_invV hd hok hw hk hlen hn hst hci ht k (fun S' I' R' v ⟨hv, hx⟩ => by subst hv; exact hx)
theorem i_VR (hs : (vR r :: as).reverse ++ st = stk) (hd : decode (mC μ) pc = .ok (.invokevirtual idx, 3)) (hok : mOK μ' n) (hw : Cond.methodLink (mO μ) idx (mY μ') ∈ lw_t2 ∧ Cond.instanceMethod (mY μ') ∈ lw_t2 ∧ Cond.selects (mY μ').cls (mY μ') (mY μ') ∈ lw_t2) (hk : mK μ' < mK μ ∧ mL μ' + mW μ' + 19 ≤ mW μ) (hlen : ((vR r :: as).map pcat).sum ≤ mL μ') (hn : as.length = n) (hst : (st.map pcat).sum ≤ 8) (hci : ci < 11 ∧ clC ci = (mY μ').cls) (ht : sT S r = ci + 1)
    (k : CR G μ' (vR r :: as) S I R (fun S' I' R' x => E G μ (pc + 3) ls (vR x :: st) S' I' R' Q)) : E G μ pc ls stk S I R Q := by
  subst hs
  exact e_invV hd hok hw hk hlen hn hst hci ht k (fun S' I' R' v ⟨x, hv, hx⟩ => by subst hv; exact hx)
theorem i_SI (hs : as.reverse ++ st = stk) (hd : decode (mC μ) pc = .ok (.invokestatic idx, 3)) (hok : mOK μ' n) (hw : Cond.methodLink (mO μ) idx (mY μ') ∈ lw_t2 ∧ Cond.static (mY μ') ∈ lw_t2) (hk : mK μ' < mK μ ∧ mL μ' + mW μ' + 19 ≤ mW μ) (hlen : (as.map pcat).sum ≤ mL μ') (hn : as.length = n) (hst : (st.map pcat).sum ≤ 8)
    (k : CI G μ' as S I R (fun S' I' R' x => E G μ (pc + 3) ls (vI x :: st) S' I' R' Q)) : E G μ pc ls stk S I R Q := by
  subst hs
  exact e_invS hd hok hw hk hlen hn hst k (fun S' I' R' v ⟨x, hv, hx⟩ => by subst hv; exact hx)
theorem i_SR (hs : as.reverse ++ st = stk) (hd : decode (mC μ) pc = .ok (.invokestatic idx, 3)) (hok : mOK μ' n) (hw : Cond.methodLink (mO μ) idx (mY μ') ∈ lw_t2 ∧ Cond.static (mY μ') ∈ lw_t2) (hk : mK μ' < mK μ ∧ mL μ' + mW μ' + 19 ≤ mW μ) (hlen : (as.map pcat).sum ≤ mL μ') (hn : as.length = n) (hst : (st.map pcat).sum ≤ 8)
    (k : CR G μ' as S I R (fun S' I' R' x => E G μ (pc + 3) ls (vR x :: st) S' I' R' Q)) : E G μ pc ls stk S I R Q := by
  subst hs
  exact e_invS hd hok hw hk hlen hn hst k (fun S' I' R' v ⟨x, hv, hx⟩ => by subst hv; exact hx)
theorem i_SV (hs : as.reverse ++ st = stk) (hd : decode (mC μ) pc = .ok (.invokestatic idx, 3)) (hok : mOK μ' n) (hw : Cond.methodLink (mO μ) idx (mY μ') ∈ lw_t2 ∧ Cond.static (mY μ') ∈ lw_t2) (hk : mK μ' < mK μ ∧ mL μ' + mW μ' + 19 ≤ mW μ) (hlen : (as.map pcat).sum ≤ mL μ') (hn : as.length = n) (hst : (st.map pcat).sum ≤ 8)
    (k : CV G μ' as S I R (fun S' I' R' => E G μ (pc + 3) ls st S' I' R' Q)) : E G μ pc ls stk S I R Q := by
  subst hs
  exact e_invS hd hok hw hk hlen hn hst k (fun S' I' R' v ⟨hv, hx⟩ => by subst hv; exact hx)
theorem i_SNR (hs : as.reverse ++ st = stk) (hd : decode (mC μ) pc = .ok (.invokestatic idx, 3)) (hok : mOK μ' n) (hw : Cond.methodLinkNest (mO μ) idx (mY μ') host ∈ lw_n ∧ Cond.static (mY μ') ∈ lw_t2) (hk : mK μ' < mK μ ∧ mL μ' + mW μ' + 19 ≤ mW μ) (hlen : (as.map pcat).sum ≤ mL μ') (hn : as.length = n) (hst : (st.map pcat).sum ≤ 8)
    (k : CR G μ' as S I R (fun S' I' R' x => E G μ (pc + 3) ls (vR x :: st) S' I' R' Q)) : E G μ pc ls stk S I R Q := by
  subst hs
  exact e_invSN hd hok hw hk hlen hn hst k (fun S' I' R' v ⟨x, hv, hx⟩ => by subst hv; exact hx)
theorem i_IV (hs : (vR r :: as).reverse ++ st = stk) (hd : decode (mC μ) pc = .ok (.invokespecial idx, 3)) (hok : mOK μ' n) (hw : Cond.methodLink (mO μ) idx (mY μ') ∈ lw_t2 ∧ Cond.instanceMethod (mY μ') ∈ lw_t2) (hin : (mY μ').name = "<init>" ∧ mR μ' = none) (hk : mK μ' < mK μ ∧ mL μ' + mW μ' + 19 ≤ mW μ) (hlen : ((vR r :: as).map pcat).sum ≤ mL μ') (hn : as.length = n) (hst : (st.map pcat).sum ≤ 8) (hr : sT S r ≠ 0)
    (k : CV G μ' (vR r :: as) S I R (fun S' I' R' => E G μ (pc + 3) ls st S' I' R' Q)) : E G μ pc ls stk S I R Q := by
  subst hs
  exact e_invI hd hok hw hin hk hlen hn hst hr k (fun S' I' R' v ⟨hv, hx⟩ => by subst hv; exact hx)
theorem i_INV (hs : (vR r :: as).reverse ++ st = stk) (hd : decode (mC μ) pc = .ok (.invokespecial idx, 3)) (hok : mOK μ' n) (hw : Cond.methodLinkNest (mO μ) idx (mY μ') host ∈ lw_n ∧ Cond.instanceMethod (mY μ') ∈ lw_t2) (hin : (mY μ').name = "<init>" ∧ mR μ' = none) (hk : mK μ' < mK μ ∧ mL μ' + mW μ' + 19 ≤ mW μ) (hlen : ((vR r :: as).map pcat).sum ≤ mL μ') (hn : as.length = n) (hst : (st.map pcat).sum ≤ 8) (hr : sT S r ≠ 0)
    (k : CV G μ' (vR r :: as) S I R (fun S' I' R' => E G μ (pc + 3) ls st S' I' R' Q)) : E G μ pc ls stk S I R Q := by
  subst hs
  exact e_invIN hd hok hw hin hk hlen hn hst hr k (fun S' I' R' v ⟨hv, hx⟩ => by subst hv; exact hx)
end WR
section EQ
variable {G : Gl} {μ : MB} {pc : Nat} {ls : Lc} {st : List PV} {S S2 : Sh} {I I2 : MI} {R R2 : MR} {Q : PQ}
theorem eqS (e : S2 = S) (k : E G μ pc ls st S2 I R Q) : E G μ pc ls st S I R Q := by subst e; exact k
theorem eqI (e : I2 = I) (k : E G μ pc ls st S I2 R Q) : E G μ pc ls st S I R Q := by subst e; exact k
theorem eqR (e : R2 = R) (k : E G μ pc ls st S I R2 Q) : E G μ pc ls st S I R Q := by subst e; exact k
theorem e_slenX (hd : decode (mC μ) pc = .ok (.arraylength, 1)) (hL : gL G ≤ 260) (k : E G μ (pc + 1) ls (vI (gL G : Int) :: st) S I R Q) : E G μ pc ls (vS :: st) S I R Q := e_slen hd k hL
end EQ
section MM
variable {G : Gl} {μ : MB} {pc idx : Nat} {ls : Lc} {st : List PV} {S : Sh} {I : MI} {R : MR} {Q : PQ} {x y : Int}
theorem e_mmax (hd : decode (mC μ) pc = .ok (.invokestatic idx, 3)) (hw : Cond.methodLink (mO μ) idx Lib.Math.max.name ∈ lw_t2) (hq : Cond.static Lib.Math.max.name ∈ lw_t2 ∧ Cond.initialized "java/lang/Math" ∈ lw_t2 ∧ Cond.code Lib.Math.max.name Lib.Math.max.code 2 (some .int) ∈ lw_t2) (hk : 1 ≤ mK μ ∧ 40 ≤ mW μ) (hst : (st.map pcat).sum ≤ 8)
    (k : E G μ (pc + 3) ls (vI (max x y) :: st) S I R Q) : E G μ pc ls (vI y :: vI x :: st) S I R Q := by
  refine e_step (Nat.le_refl _) (Nat.le_refl _) (fun a b c o => ⟨a, b, c, vok_cons (v := vI _) (by have h1 : InR y := vok_hd o; have h2 : InR x := vok_hd (vok_tl o); show InR _; unfold InR at h1 h2 ⊢; omega) (vok_tl (vok_tl o))⟩) ?_ k
  intro p l e Rm s m args below meth c Hm locs cells slots lsM Z o1 o2 o3 o4 hC hc hs hF kk
  have hts := hC.2.2.2.2.1
  have hfr := hC.2.2.2.2.2.2.2.2.2.2.1
  have hlo := hC.2.2.2.2.2.2.2.2.2.2.2.1
  have h1 : InR y := vok_hd o4
  have h2 : InR x := vok_hd (vok_tl o4)
  have hcs := cat_sum G hst
  refine va_mmax hC.1 hC.2.1 (by rw [hC.2.2.1]; exact hF.1.1.symm) hC.2.2.2.1 (hts _ hw) (hts _ hq.1) (hts _ hq.2.1) (hts _ hq.2.2) (by omega) (by omega) (by omega) (by omega) hd ?_
  have := kk Hm locs lsM hF
  simp only [Nat.sub_self, Nat.add_zero] at this
  have e : (if Int32.ofInt x < Int32.ofInt y then Int32.ofInt y else Int32.ofInt x) = Int32.ofInt (max x y) := by
    by_cases h : x < y
    · rw [if_pos ((i_lt h2 h1).mpr h), show max x y = y by omega]
    · rw [if_neg (fun q => h ((i_lt h2 h1).mp q)), show max x y = x by omega]
  rw [e]
  exact this
theorem e_mmin (hd : decode (mC μ) pc = .ok (.invokestatic idx, 3)) (hw : Cond.methodLink (mO μ) idx Lib.Math.min.name ∈ lw_t2) (hq : Cond.static Lib.Math.min.name ∈ lw_t2 ∧ Cond.initialized "java/lang/Math" ∈ lw_t2 ∧ Cond.code Lib.Math.min.name Lib.Math.min.code 2 (some .int) ∈ lw_t2) (hk : 1 ≤ mK μ ∧ 40 ≤ mW μ) (hst : (st.map pcat).sum ≤ 8)
    (k : E G μ (pc + 3) ls (vI (min x y) :: st) S I R Q) : E G μ pc ls (vI y :: vI x :: st) S I R Q := by
  refine e_step (Nat.le_refl _) (Nat.le_refl _) (fun a b c o => ⟨a, b, c, vok_cons (v := vI _) (by have h1 : InR y := vok_hd o; have h2 : InR x := vok_hd (vok_tl o); show InR _; unfold InR at h1 h2 ⊢; omega) (vok_tl (vok_tl o))⟩) ?_ k
  intro p l e Rm s m args below meth c Hm locs cells slots lsM Z o1 o2 o3 o4 hC hc hs hF kk
  have hts := hC.2.2.2.2.1
  have hfr := hC.2.2.2.2.2.2.2.2.2.2.1
  have hlo := hC.2.2.2.2.2.2.2.2.2.2.2.1
  have h1 : InR y := vok_hd o4
  have h2 : InR x := vok_hd (vok_tl o4)
  have hcs := cat_sum G hst
  refine va_mmin hC.1 hC.2.1 (by rw [hC.2.2.1]; exact hF.1.1.symm) hC.2.2.2.1 (hts _ hw) (hts _ hq.1) (hts _ hq.2.1) (hts _ hq.2.2) (by omega) (by omega) (by omega) (by omega) hd ?_
  have := kk Hm locs lsM hF
  simp only [Nat.sub_self, Nat.add_zero] at this
  have e : (if Int32.ofInt y < Int32.ofInt x then Int32.ofInt y else Int32.ofInt x) = Int32.ofInt (min x y) := by
    by_cases h : y < x
    · rw [if_pos ((i_lt h1 h2).mpr h), show min x y = y by omega]
    · rw [if_neg (fun q => h ((i_lt h1 h2).mp q)), show min x y = x by omega]
  first | (rw [e]; exact this) | (rw [← e] at this; exact this)
end MM
end
section
/-! ===== THE WALK: texts, what was there before, methods of a class above ===== -/
def i2c (x : Int) : Int := ((Int32.ofInt x).toUInt32 % 65536).toInt32.toInt
theorem mv_lit {G : Gl} {U : State} {H : Heap} (h : va_Old G U H) {k : Nat} (hk : k < 14) (h2 : k ≠ 12) : mv G (vO (k + 1)) = .ref (gA G (k + 1)) := by
  obtain ⟨a, ha⟩ := h.2.2.2.2.2.2 k hk h2
  show va_rf (gO G (k + 1)) = .ref ((gO G (k + 1)).getD 0)
  rw [ha]
  rfl
theorem cx_old {G : Gl} {μ : MB} {p : Program} {Rm : Room} {s : State} {m : MethodId} {args : Array Value} {meth : Method} {c : Code} (hC : Cx G μ p Rm s m args meth c) : va_Old G s s.heap := hC.2.2.2.2.2.2.2.2.2.2.2.2.2.2.2.2.2
section TX
variable {G : Gl} {μ μ' : MB} {pc pc2 : Nat} {ls ls2 : Lc} {st st2 as : List PV} {S S2 : Sh} {I I2 : MI} {R R2 : MR} {Q Q' : PQ} {idx ci f a n : Nat} {i x y : Int}
theorem e_i2c (hd : decode (mC μ) pc = .ok (.i2c, 1)) (k : E G μ (pc + 1) ls (vI (i2c x) :: st) S I R Q) : E G μ pc ls (vI x :: st) S I R Q :=
  e_go (fun _ _ h => vok_cons (v := vI _) (InR_toInt _) (vok_tl h)) (fun p l e Rm s m args below meth c Hm locs cells slots lsM Z _ _ _ o4 hC hx hb hF kk => lv_i2c (x := Int32.ofInt x) (v := Int32.ofInt (i2c x)) hx hb hd (Int32.ofInt_toInt _).symm kk) k
theorem e_ldcw {index : Nat} (hd : decode (mC μ) pc = .ok (.ldc_w index, 3)) (hw : Jvm.Cond.constant (mO μ) index (Int32.ofInt x) ∈ lw_t2) (hn : InR x) (k : E G μ (pc + 3) ls (vI x :: st) S I R Q) : E G μ pc ls st S I R Q :=
  e_go (fun _ _ h => vok_cons (v := vI _) hn h) (fun p l e Rm s m args below meth c Hm locs cells slots lsM Z _ _ _ _ hC hx hb hF kk => lv_ldcw hx hb hC.2.2.2.1 (hC.2.2.2.2.1 _ hw) hd kk) k
theorem e_dup_x1 {v w : PV} (hd : decode (mC μ) pc = .ok (.dup_x1, 1)) (hv : pcat v = 1) (hw : pcat w = 1) (k : E G μ (pc + 1) ls (v :: w :: v :: st) S I R Q) : E G μ pc ls (v :: w :: st) S I R Q :=
  e_go (fun _ _ h => vok_cons (vok_hd h) (vok_cons (vok_hd (vok_tl h)) (vok_cons (vok_hd h) (vok_tl (vok_tl h))))) (fun p l e Rm s m args below meth c Hm locs cells slots lsM Z _ _ _ _ hC hx hb hF kk => lv_dup_x1 hx hb hd ((mv_cat G v).trans hv) ((mv_cat G w).trans hw) kk) k
theorem e_ldcS {j : Nat} (hj : j < 6) (ho : mO μ = RL) (hd : decode (mC μ) pc = .ok (.ldc (litIx.getD j 0), 2)) (k : E G μ (pc + 2) ls (vO (j + 1) :: st) S I R Q) : E G μ pc ls st S I R Q := by
  refine e_go (fun _ _ h => vok_cons (v := vO (j + 1)) trivial h) (fun p l e Rm s m args below meth c Hm locs cells slots lsM Z _ _ _ _ hC hx hb hF kk => ?_) k
  rw [List.map_cons, mv_lit (cx_old hC) (show j < 14 by omega) (by omega)] at kk
  exact va_ldcS hx hb (by rw [← ho]; exact hC.2.2.2.1) ((cx_old hC).2.1 j hj) hd kk
theorem e_getsC (hd : decode (mC μ) pc = .ok (.getstatic idx, 3)) (hw : Cond.fieldLink (mO μ) idx "java/lang/String" "COMPACT_STRINGS" "Z" ∈ lw_t2) (k : E G μ (pc + 3) ls (vI 1 :: st) S I R Q) : E G μ pc ls st S I R Q :=
  e_go (fun _ _ h => vok_cons (v := vI 1) (by show InR 1; unfold InR; omega) h) (fun p l e Rm s m args below meth c Hm locs cells slots lsM Z _ _ _ _ hC hx hb hF kk => va_gets hx hb (cx_old hC).2.2.1 hF.2.2 hC.2.2.2.1 (hC.2.2.2.2.1 _ hw) (fun _ h => h) hd kk) k
theorem e_getsF (hd : decode (mC μ) pc = .ok (.getstatic idx, 3)) (hw : Cond.fieldLink (mO μ) idx "jdk/internal/util/Preconditions" "SIOOBE_FORMATTER" "Ljava/util/function/BiFunction;" ∈ lw_t2) (k : E G μ (pc + 3) ls (vO 13 :: st) S I R Q) : E G μ pc ls st S I R Q :=
  e_go (fun _ _ h => vok_cons (v := vO 13) trivial h) (fun p l e Rm s m args below meth c Hm locs cells slots lsM Z _ _ _ _ hC hx hb hF kk => va_gets hx hb (cx_old hC).2.2.2.1 hF.2.2 hC.2.2.2.1 (hC.2.2.2.2.1 _ hw) (fun _ h => h) hd kk) k
theorem e_getsD (hd : decode (mC μ) pc = .ok (.getstatic idx, 3)) (hw : Cond.fieldLink (mO μ) idx "java/lang/Integer" "DigitOnes" "[B" ∈ lw_t2) (k : E G μ (pc + 3) ls (vO 14 :: st) S I R Q) : E G μ pc ls st S I R Q := by
  refine e_go (fun _ _ h => vok_cons (v := vO 14) trivial h) (fun p l e Rm s m args below meth c Hm locs cells slots lsM Z _ _ _ _ hC hx hb hF kk => ?_) k
  rw [List.map_cons, mv_lit (cx_old hC) (show 13 < 14 by omega) (by omega)] at kk
  exact va_gets hx hb (cx_old hC).2.2.2.2.1 hF.2.2 hC.2.2.2.1 (hC.2.2.2.2.1 _ hw) (fun _ h => h) hd kk
theorem e_baldD (hd : decode (mC μ) pc = .ok (.baload, 1)) (hi : 0 ≤ i ∧ i < 100) (k : E G μ (pc + 1) ls (vI (48 + i % 10) :: st) S I R Q) : E G μ pc ls (vI i :: vO 14 :: st) S I R Q := by
  refine e_go (fun _ _ h => vok_cons (v := vI _) (by show InR _; unfold InR; omega) (vok_tl (vok_tl h))) (fun p l e Rm s m args below meth c Hm locs cells slots lsM Z _ _ _ o4 hC hx hb hF kk => ?_) k
  have hi2 : InR i := vok_hd o4
  rw [List.map_cons, List.map_cons, mv_lit (cx_old hC) (show 13 < 14 by omega) (by omega)]
  refine va_tb hx hb (cx_old hC).2.2.2.2.2.1 hF.2.2 (i := Int32.ofInt i) (in_of (n := 100) hi2 hi) (v := .int (Int32.ofInt (48 + i % 10))) ?_ hd kk
  rw [cl_of hi2]
  show Value.int (Int32.ofInt ((48 + i.toNat % 10 : Nat) : Int)) = _
  congr 2
  omega
theorem e_getLc {j : Nat} (hj : j < 6) (hd : decode (mC μ) pc = .ok (.getfield idx, 3)) (hw : Cond.fieldLink (mO μ) idx "java/lang/String" "coder" "B" ∈ lw_t2) (k : E G μ (pc + 3) ls (vI 0 :: st) S I R Q) : E G μ pc ls (vO (j + 1) :: st) S I R Q := by
  refine e_go (fun _ _ h => vok_cons (v := vI 0) (by show InR 0; unfold InR; omega) (vok_tl h)) (fun p l e Rm s m args below meth c Hm locs cells slots lsM Z _ _ _ _ hC hx hb hF kk => ?_) k
  rw [List.map_cons, mv_lit (cx_old hC) (show j < 14 by omega) (by omega)]
  exact vk_getf hx hb ((cx_old hC).1.1 j hj).2.1 hF.2.2 hC.2.2.2.1 (hC.2.2.2.2.1 _ hw) (fun _ h => h) hd kk
theorem e_getLv {j : Nat} (hj : j < 6) (hd : decode (mC μ) pc = .ok (.getfield idx, 3)) (hw : Cond.fieldLink (mO μ) idx "java/lang/String" "value" "[B" ∈ lw_t2) (k : E G μ (pc + 3) ls (vO (j + 7) :: st) S I R Q) : E G μ pc ls (vO (j + 1) :: st) S I R Q := by
  refine e_go (fun _ _ h => vok_cons (v := vO (j + 7)) trivial (vok_tl h)) (fun p l e Rm s m args below meth c Hm locs cells slots lsM Z _ _ _ _ hC hx hb hF kk => ?_) k
  rw [List.map_cons, mv_lit (cx_old hC) (show j < 14 by omega) (by omega)]
  rw [List.map_cons, show j + 7 = (j + 6) + 1 by omega, mv_lit (cx_old hC) (show j + 6 < 14 by omega) (by omega)] at kk
  exact vk_getf hx hb ((cx_old hC).1.1 j hj).2.2.1 hF.2.2 hC.2.2.2.1 (hC.2.2.2.2.1 _ hw) (fun _ h => h) hd kk
theorem litLen_le : ∀ j, j < 6 → litLen.getD j 0 ≤ 2 := by decide +kernel
theorem e_lenL {j : Nat} (hj : j < 6) (hd : decode (mC μ) pc = .ok (.arraylength, 1)) (k : E G μ (pc + 1) ls (vI (litLen.getD j 0 : Int) :: st) S I R Q) : E G μ pc ls (vO (j + 7) :: st) S I R Q := by
  have hl := litLen_le j hj
  refine e_go (fun _ _ h => vok_cons (v := vI _) (by show InR _; unfold InR; omega) (vok_tl h)) (fun p l e Rm s m args below meth c Hm locs cells slots lsM Z _ _ _ _ hC hx hb hF kk => ?_) k
  rw [List.map_cons, show j + 7 = (j + 6) + 1 by omega, mv_lit (cx_old hC) (show j + 6 < 14 by omega) (by omega)]
  exact va_tlen hx hb ((cx_old hC).1.1 j hj).2.2.2 hF.2.2 rfl hd kk
theorem e_ifnonnullO {j : Nat} {off : Int} {tgt : Nat} (hj : j < 6) (hd : decode (mC μ) pc = .ok (.ifnonnull off, 3)) (ht : (pc : Int) + off = (tgt : Int)) (k : E G μ tgt ls st S I R Q) : E G μ pc ls (vO (j + 1) :: st) S I R Q := by
  refine e_go (fun _ _ h => vok_tl h) (fun p l e Rm s m args below meth c Hm locs cells slots lsM Z _ _ _ o4 hC hx hb hF kk => ?_) k
  rw [List.map_cons, mv_lit (cx_old hC) (show j < 14 by omega) (by omega)]
  exact lv_ifnonnull hx hb hd ht kk
theorem rvo_ne (G : Gl) {a b : Nat} : rvo G a = rvo G b ↔ a = b := by
  cases a <;> cases b <;> simp [rvo]
theorem e_acmp_ne {a b : Nat} {off : Int} {tgt : Nat} (hd : decode (mC μ) pc = .ok (.if_acmp .ne off, 3)) (ht : (pc : Int) + off = (tgt : Int)) (kt : a ≠ b → E G μ tgt ls st S I R Q) (kf : a = b → E G μ (pc + 3) ls st S I R Q) : E G μ pc ls (vR b :: vR a :: st) S I R Q := by
  by_cases h : a = b
  · refine e_go (fun _ _ o => vok_tl (vok_tl o)) (fun p l e Rm s m args below meth c Hm locs cells slots lsM Z _ _ _ o4 hC hx hb hF kk => ?_) (kf h)
    rw [List.map_cons, List.map_cons, ← rvo_rf, ← rvo_rf]
    exact lv_acmp_ne hx hb hd ht (fun q => absurd ((rvo_ne G).mpr h) q) (fun _ => kk)
  · refine e_go (fun _ _ o => vok_tl (vok_tl o)) (fun p l e Rm s m args below meth c Hm locs cells slots lsM Z _ _ _ o4 hC hx hb hF kk => ?_) (kt h)
    rw [List.map_cons, List.map_cons, ← rvo_rf, ← rvo_rf]
    exact lv_acmp_ne hx hb hd ht (fun _ => kk) (fun q => absurd q (fun q2 => h ((rvo_ne G).mp q2)))
/-- a cell of ours that is a text -/
theorem recv_ci {p : Program} {Rm : Room} {s : State} {m : MethodId} {args : Array Value} {meth : Method} {c : Code} {Hm : Heap} {r ci : Nat} (o1 : okS S) (hC : Cx G μ p Rm s m args meth c) (hM : MRel G S I R Hm) (hci : ci < 11) (ht : sT S r = ci + 1) : ∃ cell : Cell, Hm[gB G + (r - 1)]? = some cell ∧ cell.vm.isStatics = false ∧ s.vm.findClass (clC ci) = some cell.cls := by
  obtain ⟨h1, h2⟩ := tag_in o1 ht
  have hwr := wsOf_get G I R h1 h2
  rw [ht, cellE_cls G hci] at hwr
  exact va_recv hC.2.2.2.2.2.2.2.2.1 hM.1 (clOK_all ci hci).1 hwr
theorem cls_at {p : Program} {Rm : Room} {s : State} {m : MethodId} {args : Array Value} {meth : Method} {c : Code} {ci : Nat} (hC : Cx G μ p Rm s m args meth c) (hci : ci < 11) : ClassAt s (clC ci) ((gD G).1 ci) := (hC.2.2.2.2.2.2.2.2.1.1 ci _ (clOK_all ci hci).1).2
theorem e_instS {r : Nat} (hd : decode (mC μ) pc = .ok (.instanceof idx, 3)) (hw : Cond.classLink (mO μ) idx RJ0 ∈ lw_t2) (ht : sT S r = 10) (k : E G μ (pc + 3) ls (vI 1 :: st) S I R Q) : E G μ pc ls (vR r :: st) S I R Q := by
  refine e_go (fun _ _ h => vok_cons (v := vI 1) (by show InR 1; unfold InR; omega) (vok_tl h)) (fun p l e Rm s m args below meth c Hm locs cells slots lsM Z o1 _ _ _ hC hx hb hF kk => ?_) k
  have h1 := (tag_in o1 (show sT S r = 9 + 1 from ht)).1
  rw [List.map_cons, mv_ref G h1]
  exact va_instS hx hb hC.2.2.2.1 (hC.2.2.2.2.1 _ hw) (cls_at (ci := 9) hC (by omega)) (recv_ci o1 hC hF.2.1 (by omega) ht) hd kk
theorem e_castS {r : Nat} (hd : decode (mC μ) pc = .ok (.checkcast idx, 3)) (hw : Cond.classLink (mO μ) idx RJ0 ∈ lw_t2) (ht : sT S r = 10) (k : E G μ (pc + 3) ls (vR r :: st) S I R Q) : E G μ pc ls (vR r :: st) S I R Q := by
  refine e_go (fun _ _ h => h) (fun p l e Rm s m args below meth c Hm locs cells slots lsM Z o1 _ _ _ hC hx hb hF kk => ?_) k
  have h1 := (tag_in o1 (show sT S r = 9 + 1 from ht)).1
  rw [List.map_cons, mv_ref G h1] at kk ⊢
  exact va_castS hx hb hC.2.2.2.1 (hC.2.2.2.2.1 _ hw) (cls_at (ci := 9) hC (by omega)) (recv_ci o1 hC hF.2.1 (by omega) ht) hd kk
/-- a method of String at a constant of text -/
theorem e_invVL {j : Nat} {as : List PV} (hj : j < 6) (hd : decode (mC μ) pc = .ok (.invokevirtual idx, 3)) (hok : mOK μ' n) (hw : Cond.methodLink (mO μ) idx (mY μ') ∈ lw_t2 ∧ Cond.instanceMethod (mY μ') ∈ lw_t2 ∧ Cond.selects (mY μ').cls (mY μ') (mY μ') ∈ lw_t2) (hk : mK μ' < mK μ ∧ mL μ' + mW μ' + 19 ≤ mW μ) (hlen : ((vO (j + 1) :: as).map pcat).sum ≤ mL μ') (hn : as.length = n) (hst : (st.map pcat).sum ≤ 8)
    (hci : "java/lang/String" = (mY μ').cls)
    (k : E G μ' 0 (lsArgs 0 (vO (j + 1) :: as)) [] S I R Q') (kk : ∀ S' I' R' v, Q' S' I' R' v → E G μ (pc + 3) ls (retl v ++ st) S' I' R' Q) : E G μ pc ls ((vO (j + 1) :: as).reverse ++ st) S I R Q := by
  refine e_callC hok hk hlen ?_ k kk
  intro p l e Rm s m args below meth c Hm locs cells slots lsM mc ms Qc o1 hC hM hsz hMet hR hf hp
  have hts := hC.2.2.2.2.1
  have hrecv : ∃ cell : Cell, Hm[gA G (j + 1)]? = some cell ∧ cell.vm.isStatics = false ∧ s.vm.findClass (mY μ').cls = some cell.cls := by
    obtain ⟨U, hU, hW⟩ : ∃ U : State, U.heap = Hm ∧ s.WarmedH U.vm := ⟨{ s with heap := Hm }, rfl, State.WarmedH.refl s⟩
    obtain ⟨cell, q1, q2, q3, -⟩ := ((hp.2 U hU hW).2.2.2.2.2.2.1.1 j hj).1
    rw [hU] at q1
    refine ⟨cell, q1, q2, ?_⟩
    have h9 := Vm.Alike.findClass hW.alike "java/lang/String"
    rw [← hci]
    exact (h9 none).symm.trans q3
  have hgood : GoodIn lw_t2 (wsV (mO μ) idx (mY μ').cls (mY μ') (wsM μ')) := fun w hw' => by
    unfold wsV at hw'
    rcases List.mem_append.mp hw' with h | h
    · simp only [List.mem_cons, List.not_mem_nil, or_false] at h
      rcases h with rfl | rfl | rfl | rfl
      · exact good_in hw.1
      · exact good_in hw.2.1
      · exact good_in hw.2.2
      · exact good_in hok.2.2.2.2.2
    · exact good_ws hok w h
  have hcw : CallW Rm s args (mO μ) (mY μ').cls idx (mY μ') (mC μ') (mL μ') (mR μ') (wsM μ') (rmM μ' mc ms) mc ms n := cwV n hts hgood rfl rfl rfl ⟨rfl, hok.2.2.2.1⟩ hR
  have hmv : mv G (vO (j + 1)) = .ref (gA G (j + 1)) := mv_lit (cx_old hC) (by omega) (by omega)
  have hrun := va_runV (l := l) (e := e) (below := below) (meth := meth) (locs := locs) (cells := cells) (slots := slots) (As := as.map (mv G)) (rest := st.map (mv G)) (b := gA G (j + 1)) (g := F0 m pc lsM ((as.map (mv G)).reverse ++ .ref (gA G (j + 1)) :: st.map (mv G))) ⟨hC.1, hC.2.1, hC.2.2.1, hC.2.2.2.1, hts⟩ hMet hcw ⟨hp.1, hrecv, fun U hU hW => by
    have := hp.2 U hU hW
    rw [List.map_cons, hmv] at this
    exact this⟩ rfl (by rw [List.length_map]; exact hn) hsz rfl (lv_room (by have := cat_sum G hst; omega)) hd hf
  rw [show ((vO (j + 1) :: as).reverse ++ st).map (mv G) = (as.map (mv G)).reverse ++ .ref (gA G (j + 1)) :: st.map (mv G) by simp [← hmv], show ((vO (j + 1) :: as).map (mv G)).toArray = (Value.ref (gA G (j + 1)) :: as.map (mv G)).toArray by rw [List.map_cons, hmv]]
  exact hrun
/-- a method that StringBuilder has of the class above it -/
theorem e_invVU {r : Nat} {as : List PV} (hd : decode (mC μ) pc = .ok (.invokevirtual idx, 3)) (hok : mOK μ' n) (hcl : (mY μ').cls = RJ5) (hw : Cond.methodLink (mO μ) idx (mY μ') ∈ lw_t2 ∧ Cond.instanceMethod (mY μ') ∈ lw_t2 ∧ Cond.selects RJ4 (mY μ') (mY μ') ∈ lw_t2 ∧ Cond.sameMethod (mY μ').cls RJ5 (mY μ').name (mY μ').desc ∈ lw_t2) (hk : mK μ' < mK μ ∧ mL μ' + mW μ' + 19 ≤ mW μ) (hlen : ((vR r :: as).map pcat).sum ≤ mL μ') (hn : as.length = n) (hst : (st.map pcat).sum ≤ 8)
    (ht : sT S r = 11)
    (k : E G μ' 0 (lsArgs 0 (vR r :: as)) [] S I R Q') (kk : ∀ S' I' R' v, Q' S' I' R' v → E G μ (pc + 3) ls (retl v ++ st) S' I' R' Q) : E G μ pc ls ((vR r :: as).reverse ++ st) S I R Q := by
  refine e_callC hok hk hlen ?_ k kk
  intro p l e Rm s m args below meth c Hm locs cells slots lsM mc ms Qc o1 hC hM hsz hMet hR hf hp
  have h1 := (tag_in o1 (show sT S r = 10 + 1 from ht)).1
  have hts := hC.2.2.2.2.1
  have hrecv : ∃ cell : Cell, Hm[gB G + (r - 1)]? = some cell ∧ cell.vm.isStatics = false ∧ s.vm.findClass RJ4 = some cell.cls := recv_ci (ci := 10) o1 hC hM (by omega) ht
  have hyx : mY μ' = ⟨RJ5, (mY μ').name, (mY μ').desc⟩ := by rw [← hcl]
  have hgood : GoodIn lw_t2 (va_wsU (mO μ) idx RJ4 RJ5 (mY μ') (mY μ') (wsM μ')) := fun w hw' => by
    unfold va_wsU at hw'
    rcases List.mem_append.mp hw' with h | h
    · simp only [List.mem_cons, List.not_mem_nil, or_false] at h
      rcases h with rfl | rfl | rfl | rfl | rfl
      · exact good_in hw.1
      · exact good_in hw.2.2.2
      · exact good_in hw.2.2.1
      · exact good_in hw.2.1
      · exact good_in hok.2.2.2.2.2
    · exact good_ws hok w h
  have hd2 := hok.2.2.2.1
  rw [hcl] at hd2
  have hcw := va_cwU (s := s) (R := Rm) (args := args) (rm := rmM μ' mc ms) (mc := mc) (ms := ms) n hts hgood rfl rfl rfl hyx hd2 hR
  have hmv : mv G (vR r) = .ref (gB G + (r - 1)) := mv_ref G h1
  have hrun := va_runU (l := l) (e := e) (below := below) (meth := meth) (locs := locs) (cells := cells) (slots := slots) (As := as.map (mv G)) (rest := st.map (mv G)) (b := gB G + (r - 1)) (g := F0 m pc lsM ((as.map (mv G)).reverse ++ .ref (gB G + (r - 1)) :: st.map (mv G))) (Ts := lw_t2) ⟨hC.1, hC.2.1, hC.2.2.1, hC.2.2.2.1, hts⟩ hMet hcw ⟨hp.1, hrecv, fun U hU hW => by
    have := hp.2 U hU hW
    rw [List.map_cons, hmv] at this
    exact this⟩ rfl (by rw [List.length_map]; exact hn) hsz rfl (lv_room (by have := cat_sum G hst; omega)) hd hf
  rw [show ((vR r :: as).reverse ++ st).map (mv G) = (as.map (mv G)).reverse ++ .ref (gB G + (r - 1)) :: st.map (mv G) by simp [← hmv], show ((vR r :: as).map (mv G)).toArray = (Value.ref (gB G + (r - 1)) :: as.map (mv G)).toArray by rw [List.map_cons, hmv]]
  exact hrun
/-- StringBuilder's own method, where the call names the one above it -/
theorem e_invVO {r : Nat} {as : List PV} {x : MethodName} {b0 : ByteArray} {m0 : Nat} {r0 : Option FieldType} (hd : decode (mC μ) pc = .ok (.invokevirtual idx, 3)) (hok : mOK μ' n) (hx : x.cls = RJ5 ∧ (parseMethodDescriptor x.desc).map (fun d => d.parameters.length) = some n) (hw : Cond.methodLink (mO μ) idx x ∈ lw_t2 ∧ Cond.instanceMethod (mY μ') ∈ lw_t2 ∧ Cond.selects RJ4 x (mY μ') ∈ lw_t2 ∧ Cond.sameMethod x.cls RJ5 x.name x.desc ∈ lw_t2 ∧ Cond.instanceMethod x ∈ lw_t2 ∧ Cond.code x b0 m0 r0 ∈ lw_t2) (hk : mK μ' < mK μ ∧ mL μ' + mW μ' + 19 ≤ mW μ) (hlen : ((vR r :: as).map pcat).sum ≤ mL μ') (hn : as.length = n) (hst : (st.map pcat).sum ≤ 8)
    (ht : sT S r = 11)
    (k : E G μ' 0 (lsArgs 0 (vR r :: as)) [] S I R Q') (kk : ∀ S' I' R' v, Q' S' I' R' v → E G μ (pc + 3) ls (retl v ++ st) S' I' R' Q) : E G μ pc ls ((vR r :: as).reverse ++ st) S I R Q := by
  refine e_callC hok hk hlen ?_ k kk
  intro p l e Rm s m args below meth c Hm locs cells slots lsM mc ms Qc o1 hC hM hsz hMet hR hf hp
  have h1 := (tag_in o1 (show sT S r = 10 + 1 from ht)).1
  have hts := hC.2.2.2.2.1
  have hrecv : ∃ cell : Cell, Hm[gB G + (r - 1)]? = some cell ∧ cell.vm.isStatics = false ∧ s.vm.findClass RJ4 = some cell.cls := recv_ci (ci := 10) o1 hC hM (by omega) ht
  have hyx : x = ⟨RJ5, x.name, x.desc⟩ := by rw [← hx.1]
  have hgood : GoodIn lw_t2 (va_wsO (mO μ) idx RJ4 RJ5 x (mY μ') (wsM μ')) := fun w hw' => by
    unfold va_wsO at hw'
    rcases List.mem_append.mp hw' with h | h
    · simp only [List.mem_cons, List.not_mem_nil, or_false] at h
      rcases h with rfl | rfl | rfl | rfl | rfl | rfl
      · exact good_in hw.1
      · exact good_in hw.2.2.2.1
      · rw [← hyx]; exact good_in hw.2.2.2.2.1
      · exact good_in hw.2.2.1
      · exact good_in hw.2.1
      · exact good_in hok.2.2.2.2.2
    · exact good_ws hok w h
  have hcw := va_cwO (s := s) (R := Rm) (args := args) (rm := rmM μ' mc ms) (mc := mc) (ms := ms) n hts hgood rfl rfl rfl (b0 := b0) (m0 := m0) (r0 := r0) (by rw [← hyx]; exact hw.2.2.2.2.2) ⟨by decide, by decide, hx.2⟩ hR
  have hmv : mv G (vR r) = .ref (gB G + (r - 1)) := mv_ref G h1
  have hrun := va_runU (l := l) (e := e) (below := below) (meth := meth) (locs := locs) (cells := cells) (slots := slots) (As := as.map (mv G)) (rest := st.map (mv G)) (b := gB G + (r - 1)) (g := F0 m pc lsM ((as.map (mv G)).reverse ++ .ref (gB G + (r - 1)) :: st.map (mv G))) (Ts := lw_t2) ⟨hC.1, hC.2.1, hC.2.2.1, hC.2.2.2.1, hts⟩ hMet hcw ⟨hp.1, hrecv, fun U hU hW => by
    have := hp.2 U hU hW
    rw [List.map_cons, hmv] at this
    exact this⟩ rfl (by rw [List.length_map]; exact hn) hsz rfl (lv_room (by have := cat_sum G hst; omega)) hd hf
  rw [show ((vR r :: as).reverse ++ st).map (mv G) = (as.map (mv G)).reverse ++ .ref (gB G + (r - 1)) :: st.map (mv G) by simp [← hmv], show ((vR r :: as).map (mv G)).toArray = (Value.ref (gB G + (r - 1)) :: as.map (mv G)).toArray by rw [List.map_cons, hmv]]
  exact hrun
/-- super.method: StringBuilder's calls of the class above it -/
theorem e_invSU {r : Nat} {as : List PV} (hd : decode (mC μ) pc = .ok (.invokespecial idx, 3)) (hok : mOK μ' n) (hin : (mY μ').name ≠ "<init>") (hw : Cond.methodLink (mO μ) idx (mY μ') ∈ lw_t2 ∧ Cond.instanceMethod (mY μ') ∈ lw_t2 ∧ Cond.superclass (mO μ) (mY μ').cls ∈ lw_t2 ∧ Cond.sameMethod (mY μ').cls (mY μ').cls (mY μ').name (mY μ').desc ∈ lw_t2) (hk : mK μ' < mK μ ∧ mL μ' + mW μ' + 19 ≤ mW μ) (hlen : ((vR r :: as).map pcat).sum ≤ mL μ') (hn : as.length = n) (hst : (st.map pcat).sum ≤ 8)
    (hO : mO μ = RJ4) (ht : sT S r = 11)
    (k : E G μ' 0 (lsArgs 0 (vR r :: as)) [] S I R Q') (kk : ∀ S' I' R' v, Q' S' I' R' v → E G μ (pc + 3) ls (retl v ++ st) S' I' R' Q) : E G μ pc ls ((vR r :: as).reverse ++ st) S I R Q := by
  refine e_callC hok hk hlen ?_ k kk
  intro p l e Rm s m args below meth c Hm locs cells slots lsM mc ms Qc o1 hC hM hsz hMet hR hf hp
  have h1 := (tag_in o1 (show sT S r = 10 + 1 from ht)).1
  have hts := hC.2.2.2.2.1
  have hrecv : ∃ cell : Cell, Hm[gB G + (r - 1)]? = some cell ∧ cell.vm.isStatics = false ∧ s.vm.findClass RJ4 = some cell.cls := recv_ci (ci := 10) o1 hC hM (by omega) ht
  have hgood : GoodIn lw_t2 (va_wsSU (mO μ) idx (mY μ') (wsM μ')) := fun w hw' => by
    unfold va_wsSU at hw'
    rcases List.mem_append.mp hw' with h | h
    · simp only [List.mem_cons, List.not_mem_nil, or_false] at h
      rcases h with rfl | rfl | rfl | rfl | rfl
      · exact good_in hw.1
      · exact good_in hw.2.2.2
      · exact good_in hw.2.2.1
      · exact good_in hw.2.1
      · exact good_in hok.2.2.2.2.2
    · exact good_ws hok w h
  have hcw := va_cwSU (s := s) (R := Rm) (args := args) (rm := rmM μ' mc ms) (mc := mc) (ms := ms) n hts hgood rfl rfl rfl ⟨hin, hok.2.2.2.1.2.2⟩ hR
  have hmv : mv G (vR r) = .ref (gB G + (r - 1)) := mv_ref G h1
  have hrun := va_runSU (l := l) (e := e) (below := below) (meth := meth) (locs := locs) (cells := cells) (slots := slots) (As := as.map (mv G)) (rest := st.map (mv G)) (b := gB G + (r - 1)) (g := F0 m pc lsM ((as.map (mv G)).reverse ++ .ref (gB G + (r - 1)) :: st.map (mv G))) (cls_at (ci := 10) hC (by omega)) ⟨hC.1, hC.2.1, hC.2.2.1, hC.2.2.2.1, hts⟩ hMet hcw ⟨hp.1, hrecv, fun U hU hW => by
    have := hp.2 U hU hW
    rw [List.map_cons, hmv] at this
    exact this⟩ rfl (by rw [List.length_map]; exact hn) hsz rfl (lv_room (by have := cat_sum G hst; omega)) hd hf
  rw [show ((vR r :: as).reverse ++ st).map (mv G) = (as.map (mv G)).reverse ++ .ref (gB G + (r - 1)) :: st.map (mv G) by simp [← hmv], show ((vR r :: as).map (mv G)).toArray = (Value.ref (gB G + (r - 1)) :: as.map (mv G)).toArray by rw [List.map_cons, hmv]]
  exact hrun
end TX
section WT
variable {G : Gl} {μ μ' : MB} {pc : Nat} {ls : Lc} {st stk as : List PV} {S : Sh} {I : MI} {R : MR} {Q : PQ} {idx ci n r j : Nat} {host : String}
theorem i_VLI (hs : (vO (j + 1) :: as).reverse ++ st = stk) (hj : j < 6) (hd : decode (mC μ) pc = .ok (.invokevirtual idx, 3)) (hok : mOK μ' n) (hw : Cond.methodLink (mO μ) idx (mY μ') ∈ lw_t2 ∧ Cond.instanceMethod (mY μ') ∈ lw_t2 ∧ Cond.selects (mY μ').cls (mY μ') (mY μ') ∈ lw_t2) (hk : mK μ' < mK μ ∧ mL μ' + mW μ' + 19 ≤ mW μ) (hlen : ((vO (j + 1) :: as).map pcat).sum ≤ mL μ') (hn : as.length = n) (hst : (st.map pcat).sum ≤ 8) (hci : "java/lang/String" = (mY μ').cls)
    (k : CI G μ' (vO (j + 1) :: as) S I R (fun S' I' R' x => E G μ (pc + 3) ls (vI x :: st) S' I' R' Q)) : E G μ pc ls stk S I R Q := by
  subst hs
  exact e_invVL hj hd hok hw hk hlen hn hst hci k (fun S' I' R' v ⟨x, hv, hx⟩ => by subst hv; exact hx)
theorem i_VUI (hs : (vR r :: as).reverse ++ st = stk) (hd : decode (mC μ) pc = .ok (.invokevirtual idx, 3)) (hok : mOK μ' n) (hcl : (mY μ').cls = RJ5) (hw : Cond.methodLink (mO μ) idx (mY μ') ∈ lw_t2 ∧ Cond.instanceMethod (mY μ') ∈ lw_t2 ∧ Cond.selects RJ4 (mY μ') (mY μ') ∈ lw_t2 ∧ Cond.sameMethod (mY μ').cls RJ5 (mY μ').name (mY μ').desc ∈ lw_t2) (hk : mK μ' < mK μ ∧ mL μ' + mW μ' + 19 ≤ mW μ) (hlen : ((vR r :: as).map pcat).sum ≤ mL μ') (hn : as.length = n) (hst : (st.map pcat).sum ≤ 8) (ht : sT S r = 11)
    (k : CI G μ' (vR r :: as) S I R (fun S' I' R' x => E G μ (pc + 3) ls (vI x :: st) S' I' R' Q)) : E G μ pc ls stk S I R Q := by
  subst hs
  exact e_invVU hd hok hcl hw hk hlen hn hst ht k (fun S' I' R' v ⟨x, hv, hx⟩ => by subst hv; exact hx)
theorem i_SUI (hs : (vR r :: as).reverse ++ st = stk) (hd : decode (mC μ) pc = .ok (.invokespecial idx, 3)) (hok : mOK μ' n) (hin : (mY μ').name ≠ "<init>") (hw : Cond.methodLink (mO μ) idx (mY μ') ∈ lw_t2 ∧ Cond.instanceMethod (mY μ') ∈ lw_t2 ∧ Cond.superclass (mO μ) (mY μ').cls ∈ lw_t2 ∧ Cond.sameMethod (mY μ').cls (mY μ').cls (mY μ').name (mY μ').desc ∈ lw_t2) (hk : mK μ' < mK μ ∧ mL μ' + mW μ' + 19 ≤ mW μ) (hlen : ((vR r :: as).map pcat).sum ≤ mL μ') (hn : as.length = n) (hst : (st.map pcat).sum ≤ 8) (hO : mO μ = RJ4) (ht : sT S r = 11)
    (k : CI G μ' (vR r :: as) S I R (fun S' I' R' x => E G μ (pc + 3) ls (vI x :: st) S' I' R' Q)) : E G μ pc ls stk S I R Q := by
  subst hs
  exact e_invSU hd hok hin hw hk hlen hn hst hO ht k (fun S' I' R' v ⟨x, hv, hx⟩ => by subst hv; exact hx)
theorem i_VLR (hs : (vO (j + 1) :: as).reverse ++ st = stk) (hj : j < 6) (hd : decode (mC μ) pc = .ok (.invokevirtual idx, 3)) (hok : mOK μ' n) (hw : Cond.methodLink (mO μ) idx (mY μ') ∈ lw_t2 ∧ Cond.instanceMethod (mY μ') ∈ lw_t2 ∧ Cond.selects (mY μ').cls (mY μ') (mY μ') ∈ lw_t2) (hk : mK μ' < mK μ ∧ mL μ' + mW μ' + 19 ≤ mW μ) (hlen : ((vO (j + 1) :: as).map pcat).sum ≤ mL μ') (hn : as.length = n) (hst : (st.map pcat).sum ≤ 8) (hci : "java/lang/String" = (mY μ').cls)
    (k : CR G μ' (vO (j + 1) :: as) S I R (fun S' I' R' x => E G μ (pc + 3) ls (vR x :: st) S' I' R' Q)) : E G μ pc ls stk S I R Q := by
  subst hs
  exact e_invVL hj hd hok hw hk hlen hn hst hci k (fun S' I' R' v ⟨x, hv, hx⟩ => by subst hv; exact hx)
theorem i_VUR (hs : (vR r :: as).reverse ++ st = stk) (hd : decode (mC μ) pc = .ok (.invokevirtual idx, 3)) (hok : mOK μ' n) (hcl : (mY μ').cls = RJ5) (hw : Cond.methodLink (mO μ) idx (mY μ') ∈ lw_t2 ∧ Cond.instanceMethod (mY μ') ∈ lw_t2 ∧ Cond.selects RJ4 (mY μ') (mY μ') ∈ lw_t2 ∧ Cond.sameMethod (mY μ').cls RJ5 (mY μ').name (mY μ').desc ∈ lw_t2) (hk : mK μ' < mK μ ∧ mL μ' + mW μ' + 19 ≤ mW μ) (hlen : ((vR r :: as).map pcat).sum ≤ mL μ') (hn : as.length = n) (hst : (st.map pcat).sum ≤ 8) (ht : sT S r = 11)
    (k : CR G μ' (vR r :: as) S I R (fun S' I' R' x => E G μ (pc + 3) ls (vR x :: st) S' I' R' Q)) : E G μ pc ls stk S I R Q := by
  subst hs
  exact e_invVU hd hok hcl hw hk hlen hn hst ht k (fun S' I' R' v ⟨x, hv, hx⟩ => by subst hv; exact hx)
theorem i_SUR (hs : (vR r :: as).reverse ++ st = stk) (hd : decode (mC μ) pc = .ok (.invokespecial idx, 3)) (hok : mOK μ' n) (hin : (mY μ').name ≠ "<init>") (hw : Cond.methodLink (mO μ) idx (mY μ') ∈ lw_t2 ∧ Cond.instanceMethod (mY μ') ∈ lw_t2 ∧ Cond.superclass (mO μ) (mY μ').cls ∈ lw_t2 ∧ Cond.sameMethod (mY μ').cls (mY μ').cls (mY μ').name (mY μ').desc ∈ lw_t2) (hk : mK μ' < mK μ ∧ mL μ' + mW μ' + 19 ≤ mW μ) (hlen : ((vR r :: as).map pcat).sum ≤ mL μ') (hn : as.length = n) (hst : (st.map pcat).sum ≤ 8) (hO : mO μ = RJ4) (ht : sT S r = 11)
    (k : CR G μ' (vR r :: as) S I R (fun S' I' R' x => E G μ (pc + 3) ls (vR x :: st) S' I' R' Q)) : E G μ pc ls stk S I R Q := by
  subst hs
  exact e_invSU hd hok hin hw hk hlen hn hst hO ht k (fun S' I' R' v ⟨x, hv, hx⟩ => by subst hv; exact hx)
theorem i_VLV (hs : (vO (j + 1) :: as).reverse ++ st = stk) (hj : j < 6) (hd : decode (mC μ) pc = .ok (.invokevirtual idx, 3)) (hok : mOK μ' n) (hw : Cond.methodLink (mO μ) idx (mY μ') ∈ lw_t2 ∧ Cond.instanceMethod (mY μ') ∈ lw_t2 ∧ Cond.selects (mY μ').cls (mY μ') (mY μ') ∈ lw_t2) (hk : mK μ' < mK μ ∧ mL μ' + mW μ' + 19 ≤ mW μ) (hlen : ((vO (j + 1) :: as).map pcat).sum ≤ mL μ') (hn : as.length = n) (hst : (st.map pcat).sum ≤ 8) (hci : "java/lang/String" = (mY μ').cls)
    (k : CV G μ' (vO (j + 1) :: as) S I R (fun S' I' R'  => E G μ (pc + 3) ls st S' I' R' Q)) : E G μ pc ls stk S I R Q := by
  subst hs
  exact e_invVL hj hd hok hw hk hlen hn hst hci k (fun S' I' R' v ⟨hv, hx⟩ => by subst hv; exact hx)
theorem i_VUV (hs : (vR r :: as).reverse ++ st = stk) (hd : decode (mC μ) pc = .ok (.invokevirtual idx, 3)) (hok : mOK μ' n) (hcl : (mY μ').cls = RJ5) (hw : Cond.methodLink (mO μ) idx (mY μ') ∈ lw_t2 ∧ Cond.instanceMethod (mY μ') ∈ lw_t2 ∧ Cond.selects RJ4 (mY μ') (mY μ') ∈ lw_t2 ∧ Cond.sameMethod (mY μ').cls RJ5 (mY μ').name (mY μ').desc ∈ lw_t2) (hk : mK μ' < mK μ ∧ mL μ' + mW μ' + 19 ≤ mW μ) (hlen : ((vR r :: as).map pcat).sum ≤ mL μ') (hn : as.length = n) (hst : (st.map pcat).sum ≤ 8) (ht : sT S r = 11)
    (k : CV G μ' (vR r :: as) S I R (fun S' I' R'  => E G μ (pc + 3) ls st S' I' R' Q)) : E G μ pc ls stk S I R Q := by
  subst hs
  exact e_invVU hd hok hcl hw hk hlen hn hst ht k (fun S' I' R' v ⟨hv, hx⟩ => by subst hv; exact hx)
theorem i_SUV (hs : (vR r :: as).reverse ++ st = stk) (hd : decode (mC μ) pc = .ok (.invokespecial idx, 3)) (hok : mOK μ' n) (hin : (mY μ').name ≠ "<init>") (hw : Cond.methodLink (mO μ) idx (mY μ') ∈ lw_t2 ∧ Cond.instanceMethod (mY μ') ∈ lw_t2 ∧ Cond.superclass (mO μ) (mY μ').cls ∈ lw_t2 ∧ Cond.sameMethod (mY μ').cls (mY μ').cls (mY μ').name (mY μ').desc ∈ lw_t2) (hk : mK μ' < mK μ ∧ mL μ' + mW μ' + 19 ≤ mW μ) (hlen : ((vR r :: as).map pcat).sum ≤ mL μ') (hn : as.length = n) (hst : (st.map pcat).sum ≤ 8) (hO : mO μ = RJ4) (ht : sT S r = 11)
    (k : CV G μ' (vR r :: as) S I R (fun S' I' R'  => E G μ (pc + 3) ls st S' I' R' Q)) : E G μ pc ls stk S I R Q := by
  subst hs
  exact e_invSU hd hok hin hw hk hlen hn hst hO ht k (fun S' I' R' v ⟨hv, hx⟩ => by subst hv; exact hx)
theorem i_VOI {x0 : MethodName} {b0 : ByteArray} {m0 : Nat} {r0 : Option FieldType} (hs : (vR r :: as).reverse ++ st = stk) (hd : decode (mC μ) pc = .ok (.invokevirtual idx, 3)) (hok : mOK μ' n) (hx0 : x0.cls = RJ5 ∧ (parseMethodDescriptor x0.desc).map (fun d => d.parameters.length) = some n) (hw : Cond.methodLink (mO μ) idx x0 ∈ lw_t2 ∧ Cond.instanceMethod (mY μ') ∈ lw_t2 ∧ Cond.selects RJ4 x0 (mY μ') ∈ lw_t2 ∧ Cond.sameMethod x0.cls RJ5 x0.name x0.desc ∈ lw_t2 ∧ Cond.instanceMethod x0 ∈ lw_t2 ∧ Cond.code x0 b0 m0 r0 ∈ lw_t2) (hk : mK μ' < mK μ ∧ mL μ' + mW μ' + 19 ≤ mW μ) (hlen : ((vR r :: as).map pcat).sum ≤ mL μ') (hn : as.length = n) (hst : (st.map pcat).sum ≤ 8) (ht : sT S r = 11)
    (k : CI G μ' (vR r :: as) S I R (fun S' I' R' x => E G μ (pc + 3) ls (vI x :: st) S' I' R' Q)) : E G μ pc ls stk S I R Q := by
  subst hs
  exact e_invVO hd hok hx0 hw hk hlen hn hst ht k (fun S' I' R' v ⟨x, hv, hx⟩ => by subst hv; exact hx)
end WT
end
section
/-! ===== THE WALK: bytes copied out of a constant of text, an array of bytes doubled ===== -/
def litF (j k : Nat) : Int := ((litByt.getD j []).getD k 0).toInt
theorem litF_rng : ∀ j, j < 6 → ∀ k, k < litLen.getD j 0 → 0 ≤ litF j k ∧ litF j k < 128 := by decide +kernel
section UC
variable {G : Gl} {μ μ' : MB} {pc pc2 : Nat} {ls ls2 : Lc} {st st2 as : List PV} {S S2 : Sh} {I I2 : MI} {R R2 : MR} {Q Q' : PQ} {idx ci f a n : Nat} {i x y : Int}
theorem e_copyL {j : Nat} {sp dp n : Int} (hj : j < 6) (hd : decode (mC μ) pc = .ok (.invokestatic idx, 3)) (hw : Cond.methodLink (mO μ) idx arraycopyName ∈ lw_t2 ∧ Cond.native arraycopyName ∈ lw_t2 ∧ Cond.static arraycopyName ∈ lw_t2 ∧ Cond.initialized "java/lang/System" ∈ lw_t2)
    (hk : 1 ≤ mK μ ∧ 40 ≤ mW μ) (hst : (st.map pcat).sum ≤ 8) (ht : sT S a = 22) (h1 : 0 ≤ sp) (h2 : 0 ≤ dp) (h3 : 0 ≤ n) (h4 : sp + n ≤ (litLen.getD j 0 : Int)) (h5 : dp + n ≤ (sL S a : Int))
    (k : E G μ (pc + 3) ls st S (up1 I a (va_cpy (litF j) (I a) sp.toNat dp.toNat n.toNat)) R Q) : E G μ pc ls (vI n :: vI dp :: vR a :: vI sp :: vO (j + 7) :: st) S I R Q := by
  refine e_step (Nat.le_refl _) (Nat.le_refl _) (fun o1 o2 o3 o4 => ⟨o1, ?_, o3, vok_tl (vok_tl (vok_tl (vok_tl (vok_tl o4))))⟩) ?_ k
  · intro b q
    by_cases hb : b = a
    · subst hb
      rw [up1_s]
      unfold va_cpy
      rw [ht]
      split
      · rename_i hq
        have := litF_rng j hj (sp.toNat + (q - dp.toNat)) (by omega)
        show -128 ≤ _ ∧ _ < 128
        omega
      · have := o2 b q
        rw [ht] at this
        exact this
    · rw [up1_n hb]; exact o2 b q
  intro p l e Rm s m args below meth c Hm locs cells slots lsM Z o1 o2 o3 o4 hC hc hs hF kk
  have hK := hC.2.2.2.2.2.2.2.2.1
  have hT := hC.2.2.2.2.2.2.2.2.2.1
  have hts := hC.2.2.2.2.1
  have in_n : InR n := vok_hd o4
  have in_d : InR dp := vok_hd (vok_tl o4)
  have in_s : InR sp := vok_hd (vok_tl (vok_tl (vok_tl o4)))
  obtain ⟨q1, q2, -⟩ := o1.2 a (by omega)
  have hw1 := wsOf_get G I R q1 q2
  rw [ht, cellE_int G (by omega) (by omega)] at hw1
  simp only [List.map_cons]
  rw [mv_ref G q1, show j + 7 = (j + 6) + 1 by omega, mv_lit (cx_old hC) (show j + 6 < 14 by omega) (by omega)]
  have neg : ∀ {z : Int}, InR z → 0 ≤ z → ¬ Int32.ofInt z < 0 := fun {z} hz h0 h => by
    rw [Int32.lt_iff_toInt_lt, o32 hz] at h
    have : z < 0 := h
    omega
  have hcs := cl_of in_s
  have hcd := cl_of in_d
  have hcn := cl_of in_n
  have hset := wsOf_set G (S := S) (I := I) (I' := up1 I a (va_cpy (litF j) (I a) sp.toNat dp.toNat n.toNat)) (R := R) (R' := R) q1 q2 (fun b hb => up1_n hb) (fun _ _ => rfl) (e := .inl (gC G 22, sL S a, .inl (fun q => Int32.ofInt (va_cpy (litF j) (I a) sp.toNat dp.toNat n.toNat q)))) (by rw [ht, cellE_int G (by omega) (by omega), up1_s])
  obtain ⟨scr, hs1, ⟨hs6, k0, hk0, cm0, hkk0⟩, hs3, hs4, -, hs5, hs7⟩ := ((cx_old hC).1.1 j hj).2.2.2
  have hc0 : Hm[gA G (j + 7)]? = some scr := by rw [hF.2.2.2.1 _ (Array.getElem?_eq_some_iff.mp hs1).1 hs7]; exact hs1
  have hc1 : Hm[gB G + (a - 1)]? = some (vp_cell (gC G 22) (sL S a, .inl (fun j => Int32.ofInt (I a j)))) := hF.2.1.1 _ _ hw1
  have htyp := gT_at (t := 22) hT rfl
  obtain ⟨-, k1, hk1, cm1, hkk1⟩ := (hK.2 _ _ htyp).1 (sL S a) (fun j => .int (Int32.ofInt (I a j)))
  have lf : ∀ q, Int32.ofInt (litF j q) = (litByt.getD j []).getD q 0 := fun q => Int32.ofInt_toInt _
  intro T hTm X
  obtain ⟨vm', X', step⟩ := X.arraycopy hC.1 hC.2.2.2.1 (hts _ hw.1) (hts _ hw.2.1) (hts _ hw.2.2.1) (hts _ hw.2.2.2) (src := gA G (j + 7)) (dst := gB G + (a - 1)) (cs := scr) (cd := vp_cell (gC G 22) (sL S a, .inl (fun j => Int32.ofInt (I a j)))) (srcPos := Int32.ofInt sp) (destPos := Int32.ofInt dp) (n := Int32.ofInt n) (by rw [hTm]; exact hc0) (by rw [hTm]; exact hc1)
    hs6 (fun _ h => by cases h) hs3 (fun h => by cases h) hk0 hk1 hkk0 hkk1 (by simp [refKind]) (neg in_s h1) (neg in_d h2) (neg in_n h3)
    (by rw [o32 in_s, o32 in_n]; omega)
    (by rw [o32 in_d, o32 in_n]; show ¬ _ > ((arrV (gC G 22) (sL S a) (fun j => .int (Int32.ofInt (I a j)))).slots.size : Int); rw [arrV_size]; omega)
    (fun vm₁ _ i hi => by
      rw [hcn] at hi
      have e : scr.slots.getD ((Int32.ofInt sp).toNatClampNeg + i) .null = .int (Int32.ofInt (litF j (sp.toNat + i))) := by
        rw [Array.getD_eq_getD_getElem?, hcs, hs5 _ (by omega), lf]
        rfl
      refine ⟨?_, ?_⟩
      · rw [e]
        have := litF_rng j hj (sp.toNat + i) (by omega)
        exact fits_b (by omega)
      · rw [e]; exact trivial)
    (g := F0 m pc lsM (.int (Int32.ofInt n) :: .int (Int32.ofInt dp) :: .ref (gB G + (a - 1)) :: .int (Int32.ofInt sp) :: .ref (gA G (j + 7)) :: st.map (mv G))) rfl (by rw [hC.2.2.1]; exact hF.1.1) (rest := st.map (mv G)) rfl (by rw [hC.2.1]; exact hd) (by have := hC.2.2.2.2.2.2.2.2.2.2.1; omega) (by
      have hr1 := hC.2.2.2.2.2.2.2.2.2.2.2.1
      have hr0 : ((st.map (mv G)).map fun v => v.category).sum = (st.map pcat).sum := by rw [List.map_map]; congr 1; exact List.map_congr_left (fun v _ => mv_cat G v)
      have hnw : nativeFrameWords "java/lang/System" "arraycopy" 5 + 11 ≤ 20 := by decide +kernel
      show 2 * 0 + _ + _ ≤ _
      omega)
  have e1 : copied scr (vp_cell (gC G 22) (sL S a, .inl (fun j => Int32.ofInt (I a j)))) (Int32.ofInt sp) (Int32.ofInt dp) (Int32.ofInt n) = vp_cell (gC G 22) (sL S a, .inl (fun q => Int32.ofInt (va_cpy (litF j) (I a) sp.toNat dp.toNat n.toNat q))) := by
    have := va_copiedX (fun z => .int z) scr (gC G 22) (n1 := sL S a) (n0 := litLen.getD j 0) (sp := (Int32.ofInt sp).toNatClampNeg) (dp := (Int32.ofInt dp).toNatClampNeg) (n := (Int32.ofInt n).toNatClampNeg) (fun q => (litByt.getD j []).getD q 0) (fun j => Int32.ofInt (I a j)) hs5 (by rw [hcs, hcn]; omega)
    refine Eq.trans this ?_
    rw [hcs, hcd, hcn, vp_cell_i]
    refine congrArg (arrV _ _) (funext fun q => ?_)
    unfold va_cpy
    split
    · rw [lf]
    · rfl
  rw [e1] at X' step
  have hl : gB G + (a - 1) < Hm.size := (Array.getElem?_eq_some_iff.mp hc1).1
  generalize hnew : vp_cell (gC G 22) (sL S a, .inl (fun q => Int32.ofInt (va_cpy (litF j) (I a) sp.toNat dp.toNat n.toNat q))) = cnew at X' step
  have hheap : ((T.setVm vm').setCell (gB G + (a - 1)) cnew).heap = Hm.setIfInBounds (gB G + (a - 1)) cnew := by rw [← hTm]; rfl
  have oq : ∀ q : Nat, q ≠ gB G + (a - 1) → (Hm.setIfInBounds (gB G + (a - 1)) cnew)[q]? = Hm[q]? := fun q hq => by simp [Array.getElem?_setIfInBounds, Ne.symm hq]
  have hP := hF.2.1.1.set (wsOf_D G S I R) hw1 (e := .inl (gC G 22, sL S a, .inl (fun q => Int32.ofInt (va_cpy (litF j) (I a) sp.toNat dp.toNat n.toNat q)))) (H1 := Hm.setIfInBounds (gB G + (a - 1)) cnew) (by
    show (Hm.setIfInBounds _ _)[_]? = some (vp_cell _ _)
    rw [hnew]
    simp [Array.getElem?_setIfInBounds, hl]) oq
  rw [hset] at hP
  have hS2 : ∀ L : List Loc, (∀ q ∈ L, q.base = gB G + (a - 1)) → va_S (fun q => gB G ≤ q) s.heap (Hm.setIfInBounds (gB G + (a - 1)) cnew) (locs ++ L) := fun L hL => by
    refine ⟨by simp; exact hF.2.2.1, fun q g1 g2 => ?_, fun q hq => ?_⟩
    · rw [oq q (fun e => g2 (by rw [e]; show gB G ≤ gB G + (a - 1); omega))]
      exact hF.2.2.2.1 q g1 g2
    · rcases List.mem_append.mp hq with h | h
      · exact hF.2.2.2.2 q h
      · rw [hL q h]; show gB G ≤ gB G + (a - 1); omega
  have fin : ∀ L : List Loc, (∀ q ∈ L, q.base = gB G + (a - 1)) → W p l e Rm s m args below meth c (Hm.setIfInBounds (gB G + (a - 1)) cnew) (locs ++ L) cells slots Z (F0 m (pc + 3) lsM (st.map (mv G))) := fun L hL => by
    have := kk _ _ lsM ⟨hF.1, ⟨hP, by simp; exact hF.2.1.2⟩, hS2 L hL⟩
    simpa using this
  obtain ⟨t, a1, b1⟩ := fin _ (by
    intro q hq
    obtain ⟨z, -, hz⟩ := List.mem_map.mp hq
    rw [← hz]) _ hheap X'
  exact ⟨t, step t a1, b1⟩
def mCl {α : Type} (f : Nat → Nat → α) (a b : Nat) : Nat → Nat → α := up1 f a (f b)
theorem e_clone {r : Nat} (hd : decode (mC μ) pc = .ok (.invokevirtual idx, 3)) (hw : Cond.methodLink (mO μ) idx ⟨"[B", "clone", "()Ljava/lang/Object;"⟩ ∈ lw_t2 ∧ Cond.sameMethod "[B" "java/lang/Object" "clone" "()Ljava/lang/Object;" ∈ lw_t2 ∧ Cond.native ⟨"java/lang/Object", "clone", "()Ljava/lang/Object;"⟩ ∈ lw_t2 ∧ Cond.instanceMethod ⟨"java/lang/Object", "clone", "()Ljava/lang/Object;"⟩ ∈ lw_t2 ∧
      Cond.selects "[B" ⟨"[B", "clone", "()Ljava/lang/Object;"⟩ ⟨"java/lang/Object", "clone", "()Ljava/lang/Object;"⟩ ∈ lw_t2 ∧ Cond.arrayClass .byte ∈ lw_t2) (hk : 1 ≤ mK μ ∧ 40 ≤ mW μ) (hst : (st.map pcat).sum ≤ 8) (ht : sT S r = 22)
    (k : E G μ (pc + 3) ls (vR (sN S) :: st) (shNew S 22 (sL S r) (sL S r)) (mCl I (sN S) r) (mNew R (sN S) 0) Q) : E G μ pc ls (vR r :: st) S I R Q := by
  refine e_step (by rw [sN_new]; omega) (by rw [sU_new]; omega) (fun o1 o2 o3 o4 => ⟨okS_new o1 (by omega) (o1.2 r (by omega)).2.2.2, fun b q => ?_, o3, vok_cons (v := vR _) trivial (vok_tl o4)⟩) ?_ k
  · rw [sT_new]
    unfold mCl up1
    by_cases hb : b = sN S
    · rw [if_pos hb, if_pos hb]
      have := o2 r q
      rw [ht] at this
      exact this
    · rw [if_neg hb, if_neg hb]
      exact o2 b q
  intro p l e Rm s m args below meth c Hm locs cells slots lsM Z o1 o2 o3 o4 hC hc hs hF kk
  rw [sN_new] at hc
  rw [sU_new] at hs
  have hsz := hF.2.1.2
  have hK := hC.2.2.2.2.2.2.2.2.1
  have hT := hC.2.2.2.2.2.2.2.2.2.1
  have hts := hC.2.2.2.2.1
  have hfr := hC.2.2.2.2.2.2.2.2.2.2.1
  have hlo := hC.2.2.2.2.2.2.2.2.2.2.2.1
  have hcs := cat_sum G hst
  obtain ⟨q1, q2, -⟩ := o1.2 r (by omega)
  have hw1 := wsOf_get G I R q1 q2
  rw [ht, cellE_int G (by omega) (by omega)] at hw1
  have htyp := gT_at (t := 22) hT rfl
  obtain ⟨cB, kB, compB, f1, f2, f3⟩ := Cond.arrayClass_spec (hts _ hw.2.2.2.2.2)
  have hcB : cB = gC G 22 := tys_eq (t := 22) hK hT rfl f1
  rw [hcB] at f1
  have hcl : va_Nw (.castable "[B" "java/lang/Cloneable") s := hC.2.2.2.2.2.2.2.2.2.2.2.2.2.2.2.2.1.2.2.2.2.2
  obtain ⟨c0, t0', g1, g2, g3⟩ := Cond.castable_spec (va_Nw.use (A := args) rfl hcl)
  cases (show s.vm.findClass "[B" = some (gC G 22) from f1).symm.trans g1
  have hcell : Hm[gB G + (r - 1)]? = some (vp_cell (gC G 22) (sL S r, .inl (fun j => Int32.ofInt (I r j)))) := hF.2.1.1 _ _ hw1
  rw [List.map_cons, mv_ref G q1]
  generalize hx : vp_cell (gC G 22) (sL S r, .inl (fun j => Int32.ofInt (I r j))) = cell at hcell
  have c1 : cell.cls = gC G 22 := by rw [← hx]; rfl
  have c2 : cell.vm = .none := by rw [← hx]; rfl
  have c3 : cell.slots.size = sL S r := by rw [← hx]; exact arrV_size _ _ _
  have c4 : ({ cls := cell.cls, slots := cell.slots } : Cell) = cell := by rw [← hx]; rfl
  intro T hTm X
  obtain ⟨-, kA, hkA, comp, hkind⟩ := State.isArrayOf_alike X.warmed.alike ((hK.2 _ _ htyp).1 0 (fun _ => .null))
  obtain ⟨-, kS, hkS, compS, hkindS⟩ := (hK.2 _ _ htyp).1 0 (fun _ => .null)
  obtain ⟨vm', X', stp⟩ := X.cloneArray hC.1 hC.2.2.2.1 (hts _ hw.1) (hts _ hw.2.1) (hts _ hw.2.2.1) (hts _ hw.2.2.2.1) (hts _ hw.2.2.2.2.1) (a := gB G + (r - 1)) (cell := cell) (by rw [hTm]; exact hcell) (fun k h => by rw [c2] at h; cases h) (by rw [c2]; exact fun h => by cases h) (by rw [c1]; exact f1) g2 (by rw [c1]; exact g3)
    (fun i v hv => by
      rw [c1]
      have hk' : T.vm.classes[gC G 22]? = some kA := hkA
      have hv2 : (arrV (gC G 22) (sL S r) (fun j => .int (Int32.ofInt (I r j)))).slots[i]? = some v := by rw [← hx] at hv; exact hv
      have hi : i < sL S r := by
        have := (Array.getElem?_eq_some_iff.mp hv2).1
        rwa [arrV_size] at this
      rw [arrV_read _ _ hi] at hv2
      have hb := o2 r i
      rw [ht] at hb
      have := fits_b hb
      rw [Option.some.inj hv2] at this
      simpa [State.fitsSlot, State.slotType?, hk', hkind] using this)
    (g := F0 m pc lsM (.ref (gB G + (r - 1)) :: st.map (mv G))) rfl (by rw [hC.2.2.1]; exact hF.1.1) rfl (by rw [hC.2.1]; exact hd) (by omega) (by show 2 * 0 + _ + 14 ≤ _; omega) (by omega) (by rw [c3]; omega) (hloader := by rw [c1]; exact Vm.clonesLoader_of_array hkS hkindS)
  rw [c4, c3] at X'
  generalize hH1 : Hm.push cell = H1
  have z1 : H1.size = Hm.size + 1 := by rw [← hH1, Array.size_push]
  have e1 : H1[Hm.size]? = some cell := by rw [← hH1, Array.getElem?_push_size]
  have oq : ∀ q : Nat, q < Hm.size → H1[q]? = Hm[q]? := fun q hq => by rw [← hH1, Array.getElem?_push, if_neg (Nat.ne_of_lt hq)]
  have hP : va_P (gD G) vwCl (wsOf G (shNew S 22 (sL S r) (sL S r)) (mCl I (sN S) r) (mNew R (sN S) 0)) H1 := by
    rw [wsOf_push G (S' := shNew S 22 (sL S r) (sL S r)) (I := I) (R := R) (I' := mCl I (sN S) r) (R' := mNew R (sN S) 0) o1.1 (sN_new _ _ _ _) (fun k hk => by rw [sT_new, up1_n (by omega)]) (fun k hk => by rw [sL_new, up1_n (by omega)]) (fun k hk => by unfold mCl; exact up1_n (by omega)) (fun k hk => by unfold mNew; exact up1_n (by omega))]
    refine (hF.2.1.1.kept (fun k q hk => oq q.1 (hF.2.1.1 k q hk).lt)).app (fun k q hq => ?_)
    have hz : k < 1 := (List.getElem?_eq_some_iff.mp hq).1
    rw [show k = 0 by omega] at hq
    cases hq
    rw [sT_new, sL_new, up1_s, up1_s, cellE_int G (by omega) (by omega), ← hsz]
    show H1[Hm.size]? = some (vp_cell _ _)
    rw [e1, ← hx]
    unfold mCl
    rw [up1_s]
  have hS2 : va_S (fun q => gB G ≤ q) s.heap H1 locs := ⟨by have := hF.2.2.1; omega, fun q h1 h2 => (oq q (Nat.lt_of_lt_of_le h1 hF.2.2.1)).trans (hF.2.2.2.1 q h1 h2), hF.2.2.2.2⟩
  have := kk H1 locs lsM ⟨hF.1, ⟨hP, by rw [sN_new, z1, hsz]; have := o1.1; omega⟩, hS2⟩
  rw [List.map_cons, mv_ref G o1.1, ← hsz, sN_new, sU_new] at this
  rw [show sN S + 1 - sN S = 1 by omega, show sU S + sL S r - sU S = sL S r by omega] at this
  obtain ⟨t, b1, b2⟩ := this ((T.setVm vm').pushCell cell) (by rw [← hH1, ← hTm]; rfl) X'
  refine ⟨t, stp t ?_, b2⟩
  rw [c4, hTm]
  exact b1
theorem e_castB {r : Nat} (hd : decode (mC μ) pc = .ok (.checkcast idx, 3)) (hw : Cond.classLink (mO μ) idx "[B" ∈ lw_t2 ∧ Cond.arrayClass .byte ∈ lw_t2) (ht : sT S r = 22) (k : E G μ (pc + 3) ls (vR r :: st) S I R Q) : E G μ pc ls (vR r :: st) S I R Q := by
  refine e_go (fun _ _ h => h) (fun p l e Rm s m args below meth c Hm locs cells slots lsM Z o1 _ _ _ hC hx hb hF kk => ?_) k
  obtain ⟨q1, q2, -⟩ := o1.2 r (by omega)
  have hw1 := wsOf_get G I R q1 q2
  rw [ht, cellE_int G (by omega) (by omega)] at hw1
  obtain ⟨cB, kB, compB, f1, f2, f3⟩ := Cond.arrayClass_spec (hC.2.2.2.2.1 _ hw.2)
  have hcB : cB = gC G 22 := tys_eq (t := 22) hC.2.2.2.2.2.2.2.2.1 hC.2.2.2.2.2.2.2.2.2.1 rfl f1
  rw [hcB] at f1
  rw [List.map_cons, mv_ref G q1] at kk ⊢
  exact va_castA hx hb hC.2.2.2.1 (hC.2.2.2.2.1 _ hw.1) hF.2.1.1 (r - 1) hw1 f1 hd kk
end UC
end
section
/-! names of methods, links: by program -/
abbrev MX0_init : MB := (RX0, yX0_init, cX0_init, 2, none, 4, 104)
abbrev MX0_divide : MB := (RX0, yX0_divide, cX0_divide, 7, (some .int), 6, 150)
abbrev MX0_keptOne : MB := (RX0, yX0_keptOne, cX0_keptOne, 2, (some (.object "StairsNear$Poly")), 0, 0)
abbrev MX0_tellStep : MB := (RX0, yX0_tellStep, cX0_tellStep, 3, (some .int), 0, 0)
abbrev MX0_tellWhole : MB := (RX0, yX0_tellWhole, cX0_tellWhole, 2, (some .int), 0, 0)
abbrev MX0_begin : MB := (RX0, yX0_begin, cX0_begin, 6, none, 3, 86)
abbrev MX0_bestDivisor : MB := (RX0, yX0_bestDivisor, cX0_bestDivisor, 6, (some .int), 3, 60)
abbrev MX0_stepBy : MB := (RX0, yX0_stepBy, cX0_stepBy, 5, (some .boolean), 5, 126)
abbrev MX0_subtract : MB := (RX0, yX0_subtract, cX0_subtract, 7, (some .boolean), 4, 100)
abbrev MX1_init : MB := (RX1, yX1_init, cX1_init, 1, none, 3, 84)
abbrev MX1_begin : MB := (RX1, yX1_begin, cX1_begin, 6, none, 2, 61)
abbrev MX1_become : MB := (RX1, yX1_become, cX1_become, 3, none, 2, 61)
abbrev MX1_mix : MB := (RX1, yX1_mix, cX1_mix, 8, (some .boolean), 3, 73)
abbrev MX2_init : MB := (RX2, yX2_init, cX2_init, 1, none, 1, 40)
abbrev MX2_build : MB := (RX2, yX2_build, cX2_build, 7, none, 4, 94)
abbrev MX2_count : MB := (RX2, yX2_count, cX2_count, 6, (some .int), 1, 40)
abbrev MX2_leaveOver : MB := (RX2, yX2_leaveOver, cX2_leaveOver, 7, (some .boolean), 4, 88)
abbrev MX2_isOf : MB := (RX2, yX2_isOf, cX2_isOf, 3, (some .boolean), 0, 0)
abbrev MX2_load : MB := (RX2, yX2_load, cX2_load, 5, none, 3, 64)
abbrev MX2_loadProduct : MB := (RX2, yX2_loadProduct, cX2_loadProduct, 6, none, 1, 23)
abbrev MX2_insertLine : MB := (RX2, yX2_insertLine, cX2_insertLine, 4, none, 3, 71)
abbrev MX2_storeRow : MB := (RX2, yX2_storeRow, cX2_storeRow, 6, none, 2, 46)
abbrev MX2_subtractRow : MB := (RX2, yX2_subtractRow, cX2_subtractRow, 7, none, 1, 23)
abbrev MX2_markNoCorner : MB := (RX2, yX2_markNoCorner, cX2_markNoCorner, 2, none, 0, 0)
abbrev MX3_degree : MB := (RX3, yX3_degree, cX3_degree, 1, (some .int), 0, 0)
abbrev MX3_exponent : MB := (RX3, yX3_exponent, cX3_exponent, 2, (some .int), 0, 0)
abbrev MX3_of : MB := (RX3, yX3_of, cX3_of, 4, (some .int), 0, 0)
abbrev MX3_times : MB := (RX3, yX3_times, cX3_times, 2, (some .int), 0, 0)
abbrev MX3_by : MB := (RX3, yX3_by, cX3_by, 2, (some .int), 0, 0)
abbrev MX3_divides : MB := (RX3, yX3_divides, cX3_divides, 2, (some .boolean), 1, 21)
abbrev MX3_isTooHigh : MB := (RX3, yX3_isTooHigh, cX3_isTooHigh, 1, (some .boolean), 0, 0)
abbrev MX4_init : MB := (RX4, yX4_init, cX4_init, 2, none, 1, 40)
abbrev MX4_reduced : MB := (RX4, yX4_reduced, cX4_reduced, 2, (some .int), 0, 0)
abbrev MX4_negative : MB := (RX4, yX4_negative, cX4_negative, 2, (some .int), 0, 0)
abbrev MX4_times : MB := (RX4, yX4_times, cX4_times, 3, (some .int), 0, 0)
abbrev MX4_plusTimes : MB := (RX4, yX4_plusTimes, cX4_plusTimes, 4, (some .int), 0, 0)
abbrev MX4_inverse : MB := (RX4, yX4_inverse, cX4_inverse, 5, (some .int), 1, 22)
abbrev MX5_init : MB := (RX5, yX5_init, cX5_init, 3, none, 1, 40)
abbrev MX5_clear : MB := (RX5, yX5_clear, cX5_clear, 1, none, 0, 0)
abbrev MX5_low : MB := (RX5, yX5_low, cX5_low, 1, (some .int), 1, 20)
abbrev MX5_high : MB := (RX5, yX5_high, cX5_high, 1, (some .int), 1, 20)
abbrev MX5_ecart : MB := (RX5, yX5_ecart, cX5_ecart, 1, (some .int), 2, 40)
abbrev MX5_append : MB := (RX5, yX5_append, cX5_append, 3, (some .boolean), 1, 20)
abbrev MX5_become : MB := (RX5, yX5_become, cX5_become, 2, none, 1, 40)
abbrev MX5_becomeNumber : MB := (RX5, yX5_becomeNumber, cX5_becomeNumber, 2, none, 2, 42)
abbrev MX5_mix : MB := (RX5, yX5_mix, cX5_mix, 12, (some .boolean), 2, 42)
abbrev MX5_add : MB := (RX5, yX5_add, cX5_add, 5, none, 1, 24)
abbrev MX5_dropZeros : MB := (RX5, yX5_dropZeros, cX5_dropZeros, 3, none, 0, 0)
abbrev MX5_reorder : MB := (RX5, yX5_reorder, cX5_reorder, 8, none, 2, 48)
abbrev MX5_insert : MB := (RX5, yX5_insert, cX5_insert, 5, none, 0, 0)
abbrev MX6_init : MB := (RX6, yX6_init, cX6_init, 1, none, 5, 113)
abbrev MX6_bound : MB := (RX6, yX6_bound, cX6_bound, 1, (some .int), 0, 0)
abbrev MX6_width : MB := (RX6, yX6_width, cX6_width, 1, (some .int), 1, 20)
abbrev MX6_weigh : MB := (RX6, yX6_weigh, cX6_weigh, 5, none, 4, 89)
abbrev MX6_mono : MB := (RX6, yX6_mono, cX6_mono, 4, (some .int), 1, 23)
abbrev MX6_variable : MB := (RX6, yX6_variable, cX6_variable, 2, (some .int), 2, 46)
abbrev MX6_column : MB := (RX6, yX6_column, cX6_column, 5, (some .int), 2, 40)
abbrev MX6_listDegree : MB := (RX6, yX6_listDegree, cX6_listDegree, 6, none, 2, 46)
abbrev MX6_linkProducts : MB := (RX6, yX6_linkProducts, cX6_linkProducts, 3, none, 3, 67)
abbrev MX7_init : MB := (RX7, yX7_init, cX7_init, 1, none, 2, 62)
abbrev MX7_take : MB := (RX7, yX7_take, cX7_take, 3, none, 0, 0)
abbrev MX7_clearFault : MB := (RX7, yX7_clearFault, cX7_clearFault, 1, none, 0, 0)
abbrev MX7_read : MB := (RX7, yX7_read, cX7_read, 4, none, 5, 113)
abbrev MX7_readSummand : MB := (RX7, yX7_readSummand, cX7_readSummand, 4, none, 4, 90)
abbrev MX7_factorIsAhead : MB := (RX7, yX7_factorIsAhead, cX7_factorIsAhead, 3, (some .boolean), 1, 21)
abbrev MX7_readFactor : MB := (RX7, yX7_readFactor, cX7_readFactor, 3, none, 3, 68)
abbrev MX7_readPower : MB := (RX7, yX7_readPower, cX7_readPower, 4, none, 2, 45)
abbrev MX7_readDigits : MB := (RX7, yX7_readDigits, cX7_readDigits, 4, (some .int), 1, 22)
abbrev MX7_ahead : MB := (RX7, yX7_ahead, cX7_ahead, 1, (some .int), 0, 0)
abbrev MX7_blame : MB := (RX7, yX7_blame, cX7_blame, 3, none, 0, 0)
abbrev MX7_isDigit : MB := (RX7, yX7_isDigit, cX7_isDigit, 1, (some .boolean), 0, 0)
abbrev MX7_isVariable : MB := (RX7, yX7_isVariable, cX7_isVariable, 2, (some .boolean), 0, 0)
abbrev MX8_init : MB := (RX8, yX8_init, cX8_init, 1, none, 1, 40)
abbrev MX8_write : MB := (RX8, yX8_write, cX8_write, 5, none, 3, 65)
abbrev MX8_putPower : MB := (RX8, yX8_putPower, cX8_putPower, 3, none, 2, 43)
abbrev MX8_putNumber : MB := (RX8, yX8_putNumber, cX8_putNumber, 3, none, 1, 21)
abbrev MX8_put : MB := (RX8, yX8_put, cX8_put, 2, none, 0, 0)
abbrev MX9_init : MB := (RX9, yX9_init, cX9_init, 2, none, 6, 133)
abbrev MX9_ring : MB := (RX9, yX9_ring, cX9_ring, 7, (some .boolean), 5, 113)
abbrev MX9_weights : MB := (RX9, yX9_weights, cX9_weights, 8, (some .boolean), 5, 113)
abbrev MX9_feed : MB := (RX9, yX9_feed, cX9_feed, 6, (some .int), 1, 22)
abbrev MX9_end : MB := (RX9, yX9_end, cX9_end, 2, (some .boolean), 0, 0)
abbrev MX9_poly : MB := (RX9, yX9_poly, cX9_poly, 2, (some .int), 6, 136)
abbrev MX9_show : MB := (RX9, yX9_show, cX9_show, 2, (some .int), 4, 89)
abbrev MX9_out : MB := (RX9, yX9_out, cX9_out, 2, (some .int), 0, 0)
abbrev MX9_term : MB := (RX9, yX9_term, cX9_term, 5, (some .int), 2, 42)
abbrev MX9_shape : MB := (RX9, yX9_shape, cX9_shape, 4, (some .int), 3, 60)
abbrev MX9_make : MB := (RX9, yX9_make, cX9_make, 7, (some .int), 4, 97)
abbrev MX9_weak : MB := (RX9, yX9_weak, cX9_weak, 3, (some .int), 7, 176)
abbrev MX9_kept : MB := (RX9, yX9_kept, cX9_kept, 4, (some .int), 2, 61)
abbrev MX9_step : MB := (RX9, yX9_step, cX9_step, 3, (some .int), 1, 22)
abbrev MX9_stairs : MB := (RX9, yX9_stairs, cX9_stairs, 6, (some .int), 6, 146)
abbrev MX9_rest : MB := (RX9, yX9_rest, cX9_rest, 6, (some .int), 6, 146)
abbrev MX9_look : MB := (RX9, yX9_look, cX9_look, 2, (some .int), 1, 23)
abbrev MX9_polys : MB := (RX9, yX9_polys, cX9_polys, 3, (some (.array (.object "StairsNear$Poly"))), 2, 62)
abbrev MX9_isPrime : MB := (RX9, yX9_isPrime, cX9_isPrime, 2, (some .boolean), 0, 0)
abbrev MX9_isWeight : MB := (RX9, yX9_isWeight, cX9_isWeight, 1, (some .boolean), 0, 0)
abbrev MX9_isSlot : MB := (RX9, yX9_isSlot, cX9_isSlot, 1, (some .boolean), 0, 0)
abbrev MX9_isSet : MB := (RX9, yX9_isSet, cX9_isSet, 1, (some .boolean), 0, 0)
abbrev MX9_isBound : MB := (RX9, yX9_isBound, cX9_isBound, 2, (some .boolean), 1, 20)
abbrev MX9_held : MB := (RX9, yX9_held, cX9_held, 4, (some .int), 0, 0)
abbrev MX9_putSpare : MB := (RX9, yX9_putSpare, cX9_putSpare, 7, (some .int), 0, 0)
abbrev MX9_forgetWhatWasWorkedOut : MB := (RX9, yX9_forgetWhatWasWorkedOut, cX9_forgetWhatWasWorkedOut, 5, none, 0, 0)
abbrev MX9_multiply : MB := (RX9, yX9_multiply, cX9_multiply, 5, (some .boolean), 3, 73)
abbrev MX9_oldestIdeal : MB := (RX9, yX9_oldestIdeal, cX9_oldestIdeal, 2, (some (.object "StairsNear$Ideal")), 0, 0)
abbrev MX9_idealOf : MB := (RX9, yX9_idealOf, cX9_idealOf, 7, (some (.object "StairsNear$Ideal")), 5, 120)
abbrev MX9_tellMono : MB := (RX9, yX9_tellMono, cX9_tellMono, 2, (some .int), 1, 21)
abbrev MJ5_init_d00df : MB := (RJ5, yJ5_init_d00df, cJ5_init_d00df, 2, none, 1, 40)
abbrev MJ5_length_8abf5 : MB := (RJ5, yJ5_length_8abf5, cJ5_length_8abf5, 1, (some .int), 0, 0)
abbrev MJ5_ensureCapacityInternal_d00df : MB := (RJ5, yJ5_ensureCapacityInternal_d00df, cJ5_ensureCapacityInternal_d00df, 3, none, 3, 88)
abbrev MJ5_newCapacity_0f7a4 : MB := (RJ5, yJ5_newCapacity_0f7a4, cJ5_newCapacity_0f7a4, 6, (some .int), 2, 63)
abbrev MJ5_append_cf1ce : MB := (RJ5, yJ5_append_cf1ce, cJ5_append_cf1ce, 3, (some (.object "java/lang/AbstractStringBuilder")), 4, 110)
abbrev MJ5_append_3fe6f : MB := (RJ5, yJ5_append_3fe6f, cJ5_append_3fe6f, 2, (some (.object "java/lang/AbstractStringBuilder")), 4, 110)
abbrev MJ5_append_c97b9 : MB := (RJ5, yJ5_append_c97b9, cJ5_append_c97b9, 4, (some (.object "java/lang/AbstractStringBuilder")), 4, 110)
abbrev MJ5_getValue_6d5f1 : MB := (RJ5, yJ5_getValue_6d5f1, cJ5_getValue_6d5f1, 1, (some (.array .byte)), 0, 0)
abbrev MJ5_isLatin1_aae02 : MB := (RJ5, yJ5_isLatin1_aae02, cJ5_isLatin1_aae02, 1, (some .boolean), 0, 0)
abbrev MJ5_inflateIfNeededFor_a7421 : MB := (RJ5, yJ5_inflateIfNeededFor_a7421, cJ5_inflateIfNeededFor_a7421, 2, none, 1, 20)
abbrev MJ5_putStringAt_47b60 : MB := (RJ5, yJ5_putStringAt_47b60, cJ5_putStringAt_47b60, 3, none, 2, 63)
abbrev MJ6_getChars_ba4f3 : MB := (RJ6, yJ6_getChars_ba4f3, cJ6_getChars_ba4f3, 7, (some .int), 0, 0)
abbrev MJ6_stringSize_0f7a4 : MB := (RJ6, yJ6_stringSize_0f7a4, cJ6_stringSize_0f7a4, 4, (some .int), 0, 0)
abbrev MJ6_bitCount_0f7a4 : MB := (RJ6, yJ6_bitCount_0f7a4, cJ6_bitCount_0f7a4, 1, (some .int), 0, 0)
abbrev MJ0_init_81219 : MB := (RJ0, yJ0_init_81219, cJ0_init_81219, 2, none, 4, 110)
abbrev MJ0_length_8abf5 : MB := (RJ0, yJ0_length_8abf5, cJ0_length_8abf5, 1, (some .int), 1, 20)
abbrev MJ0_charAt_5068e : MB := (RJ0, yJ0_charAt_5068e, cJ0_charAt_5068e, 2, (some .char), 3, 64)
abbrev MJ0_equals_9ea2d : MB := (RJ0, yJ0_equals_9ea2d, cJ0_equals_9ea2d, 3, (some .boolean), 1, 22)
abbrev MJ0_getBytes_840e7 : MB := (RJ0, yJ0_getBytes_840e7, cJ0_getBytes_840e7, 4, none, 1, 40)
abbrev MJ0_init_db425 : MB := (RJ0, yJ0_init_db425, cJ0_init_db425, 5, none, 3, 86)
abbrev MJ0_coder_7d493 : MB := (RJ0, yJ0_coder_7d493, cJ0_coder_7d493, 1, (some .byte), 0, 0)
abbrev MJ0_isLatin1_aae02 : MB := (RJ0, yJ0_isLatin1_aae02, cJ0_isLatin1_aae02, 1, (some .boolean), 0, 0)
abbrev MJ0_checkIndex_df160 : MB := (RJ0, yJ0_checkIndex_df160, cJ0_checkIndex_df160, 2, none, 1, 22)
abbrev MJ4_init_da8c8 : MB := (RJ4, yJ4_init_da8c8, cJ4_init_da8c8, 1, none, 2, 61)
abbrev MJ4_append_15ec4 : MB := (RJ4, yJ4_append_15ec4, cJ4_append_15ec4, 2, (some (.object "java/lang/StringBuilder")), 5, 132)
abbrev MJ4_append_cf468 : MB := (RJ4, yJ4_append_cf468, cJ4_append_cf468, 2, (some (.object "java/lang/StringBuilder")), 5, 131)
abbrev MJ4_append_bf812 : MB := (RJ4, yJ4_append_bf812, cJ4_append_bf812, 2, (some (.object "java/lang/StringBuilder")), 5, 133)
abbrev MJ4_toString_0e30d : MB := (RJ4, yJ4_toString_0e30d, cJ4_toString_0e30d, 1, (some (.object "java/lang/String")), 5, 131)
abbrev MJ4_length_8abf5 : MB := (RJ4, yJ4_length_8abf5, cJ4_length_8abf5, 1, (some .int), 1, 20)
abbrev MJ1_charAt_3b067 : MB := (RJ1, yJ1_charAt_3b067, cJ1_charAt_3b067, 2, (some .char), 2, 43)
abbrev MJ1_canEncode_fc78d : MB := (RJ1, yJ1_canEncode_fc78d, cJ1_canEncode_fc78d, 1, (some .boolean), 0, 0)
abbrev MJ1_equals_b5fdf : MB := (RJ1, yJ1_equals_b5fdf, cJ1_equals_b5fdf, 3, (some .boolean), 0, 0)
abbrev MJ7_fill_53178 : MB := (RJ7, yJ7_fill_53178, cJ7_fill_53178, 4, none, 0, 0)
abbrev MJ7_copyOf_9075b : MB := (RJ7, yJ7_copyOf_9075b, cJ7_copyOf_9075b, 3, (some (.array .byte)), 1, 40)
abbrev MJ7_checkLength_df160 : MB := (RJ7, yJ7_checkLength_df160, cJ7_checkLength_df160, 2, none, 0, 0)
abbrev MJ7_copyOfRange_39247 : MB := (RJ7, yJ7_copyOfRange_39247, cJ7_copyOfRange_39247, 3, (some (.array .byte)), 2, 64)
abbrev MJ7_copyOfRangeByte_39247 : MB := (RJ7, yJ7_copyOfRangeByte_39247, cJ7_copyOfRangeByte_39247, 5, (some (.array .byte)), 1, 40)
abbrev MJ8_newLength_cabcc : MB := (RJ8, yJ8_newLength_cabcc, cJ8_newLength_cabcc, 4, (some .int), 1, 40)
abbrev MJ3_checkIndex_8e157 : MB := (RJ3, yJ3_checkIndex_8e157, cJ3_checkIndex_8e157, 3, (some .int), 0, 0)
abbrev ML_cell : MB := (RL, yL_cell, cL_cell, 2, (some .int), 0, 0)
abbrev ML_between : MB := (RL, yL_between, cL_between, 3, (some .int), 0, 0)
abbrev ML_poly : MB := (RL, yL_poly, cL_poly, 6, (some .int), 7, 157)
abbrev ML_said : MB := (RL, yL_said, cL_said, 5, (some (.object "java/lang/String")), 6, 152)
abbrev ML_drawn : MB := (RL, yL_drawn, cL_drawn, 11, (some (.object "java/lang/String")), 6, 154)
abbrev ML_isStepped : MB := (RL, yL_isStepped, cL_isStepped, 5, (some .boolean), 2, 44)
abbrev ML_isWhole : MB := (RL, yL_isWhole, cL_isWhole, 4, (some .boolean), 5, 123)
abbrev ML_isLeft : MB := (RL, yL_isLeft, cL_isLeft, 3, (some .boolean), 3, 84)
abbrev ML_isRest : MB := (RL, yL_isRest, cL_isRest, 5, (some .boolean), 7, 176)
theorem mOKX0_init : mOK MX0_init 0 := ⟨lw_in 254 (by decide +kernel) (by decide +kernel), by decide +kernel, rfl, by decide +kernel, by decide, lw_in 40 (by decide +kernel) (by decide +kernel)⟩
theorem imX0_init : Cond.instanceMethod yX0_init ∈ lw_t2 := lw_in 253 (by decide +kernel) (by decide +kernel)
theorem mOKX0_divide : mOK MX0_divide 4 := ⟨lw_in 457 (by decide +kernel) (by decide +kernel), by decide +kernel, rfl, by decide +kernel, by decide, lw_in 40 (by decide +kernel) (by decide +kernel)⟩
theorem imX0_divide : Cond.instanceMethod yX0_divide ∈ lw_t2 := lw_in 455 (by decide +kernel) (by decide +kernel)
theorem mOKX0_keptOne : mOK MX0_keptOne 1 := ⟨lw_in 543 (by decide +kernel) (by decide +kernel), by decide +kernel, rfl, by decide +kernel, by decide, lw_in 40 (by decide +kernel) (by decide +kernel)⟩
theorem imX0_keptOne : Cond.instanceMethod yX0_keptOne ∈ lw_t2 := lw_in 541 (by decide +kernel) (by decide +kernel)
theorem mOKX0_tellStep : mOK MX0_tellStep 2 := ⟨lw_in 560 (by decide +kernel) (by decide +kernel), by decide +kernel, rfl, by decide +kernel, by decide, lw_in 40 (by decide +kernel) (by decide +kernel)⟩
theorem imX0_tellStep : Cond.instanceMethod yX0_tellStep ∈ lw_t2 := lw_in 558 (by decide +kernel) (by decide +kernel)
theorem mOKX0_tellWhole : mOK MX0_tellWhole 1 := ⟨lw_in 556 (by decide +kernel) (by decide +kernel), by decide +kernel, rfl, by decide +kernel, by decide, lw_in 40 (by decide +kernel) (by decide +kernel)⟩
theorem imX0_tellWhole : Cond.instanceMethod yX0_tellWhole ∈ lw_t2 := lw_in 554 (by decide +kernel) (by decide +kernel)
theorem mOKX0_begin : mOK MX0_begin 4 := ⟨lw_in 461 (by decide +kernel) (by decide +kernel), by decide +kernel, rfl, by decide +kernel, by decide, lw_in 40 (by decide +kernel) (by decide +kernel)⟩
theorem imX0_begin : Cond.instanceMethod yX0_begin ∈ lw_t2 := lw_in 460 (by decide +kernel) (by decide +kernel)
theorem mOKX0_bestDivisor : mOK MX0_bestDivisor 0 := ⟨lw_in 495 (by decide +kernel) (by decide +kernel), by decide +kernel, rfl, by decide +kernel, by decide, lw_in 40 (by decide +kernel) (by decide +kernel)⟩
theorem imX0_bestDivisor : Cond.instanceMethod yX0_bestDivisor ∈ lw_t2 := lw_in 494 (by decide +kernel) (by decide +kernel)
theorem mOKX0_stepBy : mOK MX0_stepBy 2 := ⟨lw_in 504 (by decide +kernel) (by decide +kernel), by decide +kernel, rfl, by decide +kernel, by decide, lw_in 40 (by decide +kernel) (by decide +kernel)⟩
theorem imX0_stepBy : Cond.instanceMethod yX0_stepBy ∈ lw_t2 := lw_in 503 (by decide +kernel) (by decide +kernel)
theorem mOKX0_subtract : mOK MX0_subtract 2 := ⟨lw_in 513 (by decide +kernel) (by decide +kernel), by decide +kernel, rfl, by decide +kernel, by decide, lw_in 40 (by decide +kernel) (by decide +kernel)⟩
theorem imX0_subtract : Cond.instanceMethod yX0_subtract ∈ lw_t2 := lw_in 512 (by decide +kernel) (by decide +kernel)
theorem mOKX1_init : mOK MX1_init 0 := ⟨lw_in 262 (by decide +kernel) (by decide +kernel), by decide +kernel, rfl, by decide +kernel, by decide, lw_in 41 (by decide +kernel) (by decide +kernel)⟩
theorem imX1_init : Cond.instanceMethod yX1_init ∈ lw_t2 := lw_in 261 (by decide +kernel) (by decide +kernel)
theorem mOKX1_begin : mOK MX1_begin 1 := ⟨lw_in 465 (by decide +kernel) (by decide +kernel), by decide +kernel, rfl, by decide +kernel, by decide, lw_in 41 (by decide +kernel) (by decide +kernel)⟩
theorem imX1_begin : Cond.instanceMethod yX1_begin ∈ lw_t2 := lw_in 463 (by decide +kernel) (by decide +kernel)
theorem mOKX1_become : mOK MX1_become 1 := ⟨lw_in 509 (by decide +kernel) (by decide +kernel), by decide +kernel, rfl, by decide +kernel, by decide, lw_in 41 (by decide +kernel) (by decide +kernel)⟩
theorem imX1_become : Cond.instanceMethod yX1_become ∈ lw_t2 := lw_in 507 (by decide +kernel) (by decide +kernel)
theorem mOKX1_mix : mOK MX1_mix 5 := ⟨lw_in 529 (by decide +kernel) (by decide +kernel), by decide +kernel, rfl, by decide +kernel, by decide, lw_in 41 (by decide +kernel) (by decide +kernel)⟩
theorem imX1_mix : Cond.instanceMethod yX1_mix ∈ lw_t2 := lw_in 527 (by decide +kernel) (by decide +kernel)
theorem mOKX2_init : mOK MX2_init 0 := ⟨lw_in 316 (by decide +kernel) (by decide +kernel), by decide +kernel, rfl, by decide +kernel, by decide, lw_in 42 (by decide +kernel) (by decide +kernel)⟩
theorem imX2_init : Cond.instanceMethod yX2_init ∈ lw_t2 := lw_in 315 (by decide +kernel) (by decide +kernel)
theorem mOKX2_build : mOK MX2_build 3 := ⟨lw_in 964 (by decide +kernel) (by decide +kernel), by decide +kernel, rfl, by decide +kernel, by decide, lw_in 42 (by decide +kernel) (by decide +kernel)⟩
theorem imX2_build : Cond.instanceMethod yX2_build ∈ lw_t2 := lw_in 962 (by decide +kernel) (by decide +kernel)
theorem mOKX2_count : mOK MX2_count 3 := ⟨lw_in 1060 (by decide +kernel) (by decide +kernel), by decide +kernel, rfl, by decide +kernel, by decide, lw_in 42 (by decide +kernel) (by decide +kernel)⟩
theorem imX2_count : Cond.instanceMethod yX2_count ∈ lw_t2 := lw_in 1058 (by decide +kernel) (by decide +kernel)
theorem mOKX2_leaveOver : mOK MX2_leaveOver 4 := ⟨lw_in 1000 (by decide +kernel) (by decide +kernel), by decide +kernel, rfl, by decide +kernel, by decide, lw_in 42 (by decide +kernel) (by decide +kernel)⟩
theorem imX2_leaveOver : Cond.instanceMethod yX2_leaveOver ∈ lw_t2 := lw_in 998 (by decide +kernel) (by decide +kernel)
theorem mOKX2_isOf : mOK MX2_isOf 2 := ⟨lw_in 1065 (by decide +kernel) (by decide +kernel), by decide +kernel, rfl, by decide +kernel, by decide, lw_in 42 (by decide +kernel) (by decide +kernel)⟩
theorem imX2_isOf : Cond.instanceMethod yX2_isOf ∈ lw_t2 := lw_in 1064 (by decide +kernel) (by decide +kernel)
theorem mOKX2_load : mOK MX2_load 2 := ⟨lw_in 971 (by decide +kernel) (by decide +kernel), by decide +kernel, rfl, by decide +kernel, by decide, lw_in 42 (by decide +kernel) (by decide +kernel)⟩
theorem imX2_load : Cond.instanceMethod yX2_load ∈ lw_t2 := lw_in 970 (by decide +kernel) (by decide +kernel)
theorem mOKX2_loadProduct : mOK MX2_loadProduct 3 := ⟨lw_in 992 (by decide +kernel) (by decide +kernel), by decide +kernel, rfl, by decide +kernel, by decide, lw_in 42 (by decide +kernel) (by decide +kernel)⟩
theorem imX2_loadProduct : Cond.instanceMethod yX2_loadProduct ∈ lw_t2 := lw_in 991 (by decide +kernel) (by decide +kernel)
theorem mOKX2_insertLine : mOK MX2_insertLine 2 := ⟨lw_in 976 (by decide +kernel) (by decide +kernel), by decide +kernel, rfl, by decide +kernel, by decide, lw_in 42 (by decide +kernel) (by decide +kernel)⟩
theorem imX2_insertLine : Cond.instanceMethod yX2_insertLine ∈ lw_t2 := lw_in 975 (by decide +kernel) (by decide +kernel)
theorem mOKX2_storeRow : mOK MX2_storeRow 3 := ⟨lw_in 980 (by decide +kernel) (by decide +kernel), by decide +kernel, rfl, by decide +kernel, by decide, lw_in 42 (by decide +kernel) (by decide +kernel)⟩
theorem imX2_storeRow : Cond.instanceMethod yX2_storeRow ∈ lw_t2 := lw_in 979 (by decide +kernel) (by decide +kernel)
theorem mOKX2_subtractRow : mOK MX2_subtractRow 3 := ⟨lw_in 986 (by decide +kernel) (by decide +kernel), by decide +kernel, rfl, by decide +kernel, by decide, lw_in 42 (by decide +kernel) (by decide +kernel)⟩
theorem imX2_subtractRow : Cond.instanceMethod yX2_subtractRow ∈ lw_t2 := lw_in 985 (by decide +kernel) (by decide +kernel)
theorem mOKX2_markNoCorner : mOK MX2_markNoCorner 1 := ⟨lw_in 996 (by decide +kernel) (by decide +kernel), by decide +kernel, rfl, by decide +kernel, by decide, lw_in 42 (by decide +kernel) (by decide +kernel)⟩
theorem imX2_markNoCorner : Cond.instanceMethod yX2_markNoCorner ∈ lw_t2 := lw_in 995 (by decide +kernel) (by decide +kernel)
theorem mOKX3_degree : mOK MX3_degree 1 := ⟨lw_in 106 (by decide +kernel) (by decide +kernel), by decide +kernel, rfl, by decide +kernel, by decide, lw_in 36 (by decide +kernel) (by decide +kernel)⟩
theorem stX3_degree : Cond.static yX3_degree ∈ lw_t2 := lw_in 105 (by decide +kernel) (by decide +kernel)
theorem mOKX3_exponent : mOK MX3_exponent 2 := ⟨lw_in 398 (by decide +kernel) (by decide +kernel), by decide +kernel, rfl, by decide +kernel, by decide, lw_in 36 (by decide +kernel) (by decide +kernel)⟩
theorem stX3_exponent : Cond.static yX3_exponent ∈ lw_t2 := lw_in 397 (by decide +kernel) (by decide +kernel)
theorem mOKX3_of : mOK MX3_of 4 := ⟨lw_in 102 (by decide +kernel) (by decide +kernel), by decide +kernel, rfl, by decide +kernel, by decide, lw_in 36 (by decide +kernel) (by decide +kernel)⟩
theorem stX3_of : Cond.static yX3_of ∈ lw_t2 := lw_in 101 (by decide +kernel) (by decide +kernel)
theorem mOKX3_times : mOK MX3_times 2 := ⟨lw_in 121 (by decide +kernel) (by decide +kernel), by decide +kernel, rfl, by decide +kernel, by decide, lw_in 36 (by decide +kernel) (by decide +kernel)⟩
theorem stX3_times : Cond.static yX3_times ∈ lw_t2 := lw_in 120 (by decide +kernel) (by decide +kernel)
theorem mOKX3_by : mOK MX3_by 2 := ⟨lw_in 525 (by decide +kernel) (by decide +kernel), by decide +kernel, rfl, by decide +kernel, by decide, lw_in 36 (by decide +kernel) (by decide +kernel)⟩
theorem stX3_by : Cond.static yX3_by ∈ lw_t2 := lw_in 524 (by decide +kernel) (by decide +kernel)
theorem mOKX3_divides : mOK MX3_divides 2 := ⟨lw_in 498 (by decide +kernel) (by decide +kernel), by decide +kernel, rfl, by decide +kernel, by decide, lw_in 36 (by decide +kernel) (by decide +kernel)⟩
theorem stX3_divides : Cond.static yX3_divides ∈ lw_t2 := lw_in 497 (by decide +kernel) (by decide +kernel)
theorem mOKX3_isTooHigh : mOK MX3_isTooHigh 1 := ⟨lw_in 490 (by decide +kernel) (by decide +kernel), by decide +kernel, rfl, by decide +kernel, by decide, lw_in 36 (by decide +kernel) (by decide +kernel)⟩
theorem stX3_isTooHigh : Cond.static yX3_isTooHigh ∈ lw_t2 := lw_in 489 (by decide +kernel) (by decide +kernel)
theorem mOKX4_init : mOK MX4_init 1 := ⟨lw_in 72 (by decide +kernel) (by decide +kernel), by decide +kernel, rfl, by decide +kernel, by decide, lw_in 34 (by decide +kernel) (by decide +kernel)⟩
theorem imX4_init : Cond.instanceMethod yX4_init ∈ lw_t2 := lw_in 71 (by decide +kernel) (by decide +kernel)
theorem mOKX4_reduced : mOK MX4_reduced 1 := ⟨lw_in 686 (by decide +kernel) (by decide +kernel), by decide +kernel, rfl, by decide +kernel, by decide, lw_in 34 (by decide +kernel) (by decide +kernel)⟩
theorem imX4_reduced : Cond.instanceMethod yX4_reduced ∈ lw_t2 := lw_in 684 (by decide +kernel) (by decide +kernel)
theorem mOKX4_negative : mOK MX4_negative 1 := ⟨lw_in 478 (by decide +kernel) (by decide +kernel), by decide +kernel, rfl, by decide +kernel, by decide, lw_in 34 (by decide +kernel) (by decide +kernel)⟩
theorem imX4_negative : Cond.instanceMethod yX4_negative ∈ lw_t2 := lw_in 476 (by decide +kernel) (by decide +kernel)
theorem mOKX4_times : mOK MX4_times 2 := ⟨lw_in 521 (by decide +kernel) (by decide +kernel), by decide +kernel, rfl, by decide +kernel, by decide, lw_in 34 (by decide +kernel) (by decide +kernel)⟩
theorem imX4_times : Cond.instanceMethod yX4_times ∈ lw_t2 := lw_in 519 (by decide +kernel) (by decide +kernel)
theorem mOKX4_plusTimes : mOK MX4_plusTimes 3 := ⟨lw_in 407 (by decide +kernel) (by decide +kernel), by decide +kernel, rfl, by decide +kernel, by decide, lw_in 34 (by decide +kernel) (by decide +kernel)⟩
theorem imX4_plusTimes : Cond.instanceMethod yX4_plusTimes ∈ lw_t2 := lw_in 405 (by decide +kernel) (by decide +kernel)
theorem mOKX4_inverse : mOK MX4_inverse 1 := ⟨lw_in 517 (by decide +kernel) (by decide +kernel), by decide +kernel, rfl, by decide +kernel, by decide, lw_in 34 (by decide +kernel) (by decide +kernel)⟩
theorem imX4_inverse : Cond.instanceMethod yX4_inverse ∈ lw_t2 := lw_in 515 (by decide +kernel) (by decide +kernel)
theorem mOKX5_init : mOK MX5_init 1 := ⟨lw_in 173 (by decide +kernel) (by decide +kernel), by decide +kernel, rfl, by decide +kernel, by decide, lw_in 37 (by decide +kernel) (by decide +kernel)⟩
theorem imX5_init : Cond.instanceMethod yX5_init ∈ lw_t2 := lw_in 172 (by decide +kernel) (by decide +kernel)
theorem mOKX5_clear : mOK MX5_clear 0 := ⟨lw_in 380 (by decide +kernel) (by decide +kernel), by decide +kernel, rfl, by decide +kernel, by decide, lw_in 37 (by decide +kernel) (by decide +kernel)⟩
theorem imX5_clear : Cond.instanceMethod yX5_clear ∈ lw_t2 := lw_in 378 (by decide +kernel) (by decide +kernel)
theorem mOKX5_low : mOK MX5_low 0 := ⟨lw_in 431 (by decide +kernel) (by decide +kernel), by decide +kernel, rfl, by decide +kernel, by decide, lw_in 37 (by decide +kernel) (by decide +kernel)⟩
theorem imX5_low : Cond.instanceMethod yX5_low ∈ lw_t2 := lw_in 429 (by decide +kernel) (by decide +kernel)
theorem mOKX5_high : mOK MX5_high 0 := ⟨lw_in 436 (by decide +kernel) (by decide +kernel), by decide +kernel, rfl, by decide +kernel, by decide, lw_in 37 (by decide +kernel) (by decide +kernel)⟩
theorem imX5_high : Cond.instanceMethod yX5_high ∈ lw_t2 := lw_in 434 (by decide +kernel) (by decide +kernel)
theorem mOKX5_ecart : mOK MX5_ecart 0 := ⟨lw_in 440 (by decide +kernel) (by decide +kernel), by decide +kernel, rfl, by decide +kernel, by decide, lw_in 37 (by decide +kernel) (by decide +kernel)⟩
theorem imX5_ecart : Cond.instanceMethod yX5_ecart ∈ lw_t2 := lw_in 438 (by decide +kernel) (by decide +kernel)
theorem mOKX5_append : mOK MX5_append 2 := ⟨lw_in 487 (by decide +kernel) (by decide +kernel), by decide +kernel, rfl, by decide +kernel, by decide, lw_in 37 (by decide +kernel) (by decide +kernel)⟩
theorem imX5_append : Cond.instanceMethod yX5_append ∈ lw_t2 := lw_in 485 (by decide +kernel) (by decide +kernel)
theorem mOKX5_become : mOK MX5_become 1 := ⟨lw_in 469 (by decide +kernel) (by decide +kernel), by decide +kernel, rfl, by decide +kernel, by decide, lw_in 37 (by decide +kernel) (by decide +kernel)⟩
theorem imX5_become : Cond.instanceMethod yX5_become ∈ lw_t2 := lw_in 467 (by decide +kernel) (by decide +kernel)
theorem mOKX5_becomeNumber : mOK MX5_becomeNumber 1 := ⟨lw_in 482 (by decide +kernel) (by decide +kernel), by decide +kernel, rfl, by decide +kernel, by decide, lw_in 37 (by decide +kernel) (by decide +kernel)⟩
theorem imX5_becomeNumber : Cond.instanceMethod yX5_becomeNumber ∈ lw_t2 := lw_in 480 (by decide +kernel) (by decide +kernel)
theorem mOKX5_mix : mOK MX5_mix 5 := ⟨lw_in 533 (by decide +kernel) (by decide +kernel), by decide +kernel, rfl, by decide +kernel, by decide, lw_in 37 (by decide +kernel) (by decide +kernel)⟩
theorem imX5_mix : Cond.instanceMethod yX5_mix ∈ lw_t2 := lw_in 531 (by decide +kernel) (by decide +kernel)
theorem mOKX5_add : mOK MX5_add 3 := ⟨lw_in 403 (by decide +kernel) (by decide +kernel), by decide +kernel, rfl, by decide +kernel, by decide, lw_in 37 (by decide +kernel) (by decide +kernel)⟩
theorem imX5_add : Cond.instanceMethod yX5_add ∈ lw_t2 := lw_in 401 (by decide +kernel) (by decide +kernel)
theorem mOKX5_dropZeros : mOK MX5_dropZeros 0 := ⟨lw_in 698 (by decide +kernel) (by decide +kernel), by decide +kernel, rfl, by decide +kernel, by decide, lw_in 37 (by decide +kernel) (by decide +kernel)⟩
theorem imX5_dropZeros : Cond.instanceMethod yX5_dropZeros ∈ lw_t2 := lw_in 696 (by decide +kernel) (by decide +kernel)
theorem mOKX5_reorder : mOK MX5_reorder 1 := ⟨lw_in 395 (by decide +kernel) (by decide +kernel), by decide +kernel, rfl, by decide +kernel, by decide, lw_in 37 (by decide +kernel) (by decide +kernel)⟩
theorem imX5_reorder : Cond.instanceMethod yX5_reorder ∈ lw_t2 := lw_in 393 (by decide +kernel) (by decide +kernel)
theorem mOKX5_insert : mOK MX5_insert 3 := ⟨lw_in 411 (by decide +kernel) (by decide +kernel), by decide +kernel, rfl, by decide +kernel, by decide, lw_in 37 (by decide +kernel) (by decide +kernel)⟩
theorem imX5_insert : Cond.instanceMethod yX5_insert ∈ lw_t2 := lw_in 410 (by decide +kernel) (by decide +kernel)
theorem mOKX6_init : mOK MX6_init 0 := ⟨lw_in 66 (by decide +kernel) (by decide +kernel), by decide +kernel, rfl, by decide +kernel, by decide, lw_in 33 (by decide +kernel) (by decide +kernel)⟩
theorem imX6_init : Cond.instanceMethod yX6_init ∈ lw_t2 := lw_in 65 (by decide +kernel) (by decide +kernel)
theorem mOKX6_bound : mOK MX6_bound 0 := ⟨lw_in 91 (by decide +kernel) (by decide +kernel), by decide +kernel, rfl, by decide +kernel, by decide, lw_in 33 (by decide +kernel) (by decide +kernel)⟩
theorem imX6_bound : Cond.instanceMethod yX6_bound ∈ lw_t2 := lw_in 89 (by decide +kernel) (by decide +kernel)
theorem mOKX6_width : mOK MX6_width 0 := ⟨lw_in 114 (by decide +kernel) (by decide +kernel), by decide +kernel, rfl, by decide +kernel, by decide, lw_in 33 (by decide +kernel) (by decide +kernel)⟩
theorem imX6_width : Cond.instanceMethod yX6_width ∈ lw_t2 := lw_in 112 (by decide +kernel) (by decide +kernel)
theorem mOKX6_weigh : mOK MX6_weigh 3 := ⟨lw_in 87 (by decide +kernel) (by decide +kernel), by decide +kernel, rfl, by decide +kernel, by decide, lw_in 33 (by decide +kernel) (by decide +kernel)⟩
theorem imX6_weigh : Cond.instanceMethod yX6_weigh ∈ lw_t2 := lw_in 85 (by decide +kernel) (by decide +kernel)
theorem mOKX6_mono : mOK MX6_mono 3 := ⟨lw_in 99 (by decide +kernel) (by decide +kernel), by decide +kernel, rfl, by decide +kernel, by decide, lw_in 33 (by decide +kernel) (by decide +kernel)⟩
theorem imX6_mono : Cond.instanceMethod yX6_mono ∈ lw_t2 := lw_in 97 (by decide +kernel) (by decide +kernel)
theorem mOKX6_variable : mOK MX6_variable 1 := ⟨lw_in 118 (by decide +kernel) (by decide +kernel), by decide +kernel, rfl, by decide +kernel, by decide, lw_in 33 (by decide +kernel) (by decide +kernel)⟩
theorem imX6_variable : Cond.instanceMethod yX6_variable ∈ lw_t2 := lw_in 116 (by decide +kernel) (by decide +kernel)
theorem mOKX6_column : mOK MX6_column 1 := ⟨lw_in 125 (by decide +kernel) (by decide +kernel), by decide +kernel, rfl, by decide +kernel, by decide, lw_in 33 (by decide +kernel) (by decide +kernel)⟩
theorem imX6_column : Cond.instanceMethod yX6_column ∈ lw_t2 := lw_in 123 (by decide +kernel) (by decide +kernel)
theorem mOKX6_listDegree : mOK MX6_listDegree 1 := ⟨lw_in 95 (by decide +kernel) (by decide +kernel), by decide +kernel, rfl, by decide +kernel, by decide, lw_in 33 (by decide +kernel) (by decide +kernel)⟩
theorem imX6_listDegree : Cond.instanceMethod yX6_listDegree ∈ lw_t2 := lw_in 94 (by decide +kernel) (by decide +kernel)
theorem mOKX6_linkProducts : mOK MX6_linkProducts 1 := ⟨lw_in 110 (by decide +kernel) (by decide +kernel), by decide +kernel, rfl, by decide +kernel, by decide, lw_in 33 (by decide +kernel) (by decide +kernel)⟩
theorem imX6_linkProducts : Cond.instanceMethod yX6_linkProducts ∈ lw_t2 := lw_in 109 (by decide +kernel) (by decide +kernel)
theorem mOKX7_init : mOK MX7_init 0 := ⟨lw_in 203 (by decide +kernel) (by decide +kernel), by decide +kernel, rfl, by decide +kernel, by decide, lw_in 38 (by decide +kernel) (by decide +kernel)⟩
theorem imX7_init : Cond.instanceMethod yX7_init ∈ lw_t2 := lw_in 202 (by decide +kernel) (by decide +kernel)
theorem mOKX7_take : mOK MX7_take 1 := ⟨lw_in 632 (by decide +kernel) (by decide +kernel), by decide +kernel, rfl, by decide +kernel, by decide, lw_in 38 (by decide +kernel) (by decide +kernel)⟩
theorem imX7_take : Cond.instanceMethod yX7_take ∈ lw_t2 := lw_in 630 (by decide +kernel) (by decide +kernel)
theorem mOKX7_clearFault : mOK MX7_clearFault 0 := ⟨lw_in 644 (by decide +kernel) (by decide +kernel), by decide +kernel, rfl, by decide +kernel, by decide, lw_in 38 (by decide +kernel) (by decide +kernel)⟩
theorem imX7_clearFault : Cond.instanceMethod yX7_clearFault ∈ lw_t2 := lw_in 642 (by decide +kernel) (by decide +kernel)
theorem mOKX7_read : mOK MX7_read 1 := ⟨lw_in 648 (by decide +kernel) (by decide +kernel), by decide +kernel, rfl, by decide +kernel, by decide, lw_in 38 (by decide +kernel) (by decide +kernel)⟩
theorem imX7_read : Cond.instanceMethod yX7_read ∈ lw_t2 := lw_in 646 (by decide +kernel) (by decide +kernel)
theorem mOKX7_readSummand : mOK MX7_readSummand 2 := ⟨lw_in 657 (by decide +kernel) (by decide +kernel), by decide +kernel, rfl, by decide +kernel, by decide, lw_in 38 (by decide +kernel) (by decide +kernel)⟩
theorem imX7_readSummand : Cond.instanceMethod yX7_readSummand ∈ lw_t2 := lw_in 656 (by decide +kernel) (by decide +kernel)
theorem mOKX7_factorIsAhead : mOK MX7_factorIsAhead 1 := ⟨lw_in 664 (by decide +kernel) (by decide +kernel), by decide +kernel, rfl, by decide +kernel, by decide, lw_in 38 (by decide +kernel) (by decide +kernel)⟩
theorem imX7_factorIsAhead : Cond.instanceMethod yX7_factorIsAhead ∈ lw_t2 := lw_in 663 (by decide +kernel) (by decide +kernel)
theorem mOKX7_readFactor : mOK MX7_readFactor 1 := ⟨lw_in 678 (by decide +kernel) (by decide +kernel), by decide +kernel, rfl, by decide +kernel, by decide, lw_in 38 (by decide +kernel) (by decide +kernel)⟩
theorem imX7_readFactor : Cond.instanceMethod yX7_readFactor ∈ lw_t2 := lw_in 677 (by decide +kernel) (by decide +kernel)
theorem mOKX7_readPower : mOK MX7_readPower 1 := ⟨lw_in 691 (by decide +kernel) (by decide +kernel), by decide +kernel, rfl, by decide +kernel, by decide, lw_in 38 (by decide +kernel) (by decide +kernel)⟩
theorem imX7_readPower : Cond.instanceMethod yX7_readPower ∈ lw_t2 := lw_in 690 (by decide +kernel) (by decide +kernel)
theorem mOKX7_readDigits : mOK MX7_readDigits 1 := ⟨lw_in 682 (by decide +kernel) (by decide +kernel), by decide +kernel, rfl, by decide +kernel, by decide, lw_in 38 (by decide +kernel) (by decide +kernel)⟩
theorem imX7_readDigits : Cond.instanceMethod yX7_readDigits ∈ lw_t2 := lw_in 681 (by decide +kernel) (by decide +kernel)
theorem mOKX7_ahead : mOK MX7_ahead 0 := ⟨lw_in 653 (by decide +kernel) (by decide +kernel), by decide +kernel, rfl, by decide +kernel, by decide, lw_in 38 (by decide +kernel) (by decide +kernel)⟩
theorem imX7_ahead : Cond.instanceMethod yX7_ahead ∈ lw_t2 := lw_in 652 (by decide +kernel) (by decide +kernel)
theorem mOKX7_blame : mOK MX7_blame 2 := ⟨lw_in 674 (by decide +kernel) (by decide +kernel), by decide +kernel, rfl, by decide +kernel, by decide, lw_in 38 (by decide +kernel) (by decide +kernel)⟩
theorem imX7_blame : Cond.instanceMethod yX7_blame ∈ lw_t2 := lw_in 673 (by decide +kernel) (by decide +kernel)
theorem mOKX7_isDigit : mOK MX7_isDigit 1 := ⟨lw_in 667 (by decide +kernel) (by decide +kernel), by decide +kernel, rfl, by decide +kernel, by decide, lw_in 38 (by decide +kernel) (by decide +kernel)⟩
theorem stX7_isDigit : Cond.static yX7_isDigit ∈ lw_t2 := lw_in 666 (by decide +kernel) (by decide +kernel)
theorem mOKX7_isVariable : mOK MX7_isVariable 2 := ⟨lw_in 670 (by decide +kernel) (by decide +kernel), by decide +kernel, rfl, by decide +kernel, by decide, lw_in 38 (by decide +kernel) (by decide +kernel)⟩
theorem stX7_isVariable : Cond.static yX7_isVariable ∈ lw_t2 := lw_in 669 (by decide +kernel) (by decide +kernel)
theorem mOKX8_init : mOK MX8_init 0 := ⟨lw_in 239 (by decide +kernel) (by decide +kernel), by decide +kernel, rfl, by decide +kernel, by decide, lw_in 39 (by decide +kernel) (by decide +kernel)⟩
theorem imX8_init : Cond.instanceMethod yX8_init ∈ lw_t2 := lw_in 238 (by decide +kernel) (by decide +kernel)
theorem mOKX8_write : mOK MX8_write 1 := ⟨lw_in 1013 (by decide +kernel) (by decide +kernel), by decide +kernel, rfl, by decide +kernel, by decide, lw_in 39 (by decide +kernel) (by decide +kernel)⟩
theorem imX8_write : Cond.instanceMethod yX8_write ∈ lw_t2 := lw_in 1011 (by decide +kernel) (by decide +kernel)
theorem mOKX8_putPower : mOK MX8_putPower 2 := ⟨lw_in 1027 (by decide +kernel) (by decide +kernel), by decide +kernel, rfl, by decide +kernel, by decide, lw_in 39 (by decide +kernel) (by decide +kernel)⟩
theorem imX8_putPower : Cond.instanceMethod yX8_putPower ∈ lw_t2 := lw_in 1026 (by decide +kernel) (by decide +kernel)
theorem mOKX8_putNumber : mOK MX8_putNumber 1 := ⟨lw_in 1022 (by decide +kernel) (by decide +kernel), by decide +kernel, rfl, by decide +kernel, by decide, lw_in 39 (by decide +kernel) (by decide +kernel)⟩
theorem imX8_putNumber : Cond.instanceMethod yX8_putNumber ∈ lw_t2 := lw_in 1021 (by decide +kernel) (by decide +kernel)
theorem mOKX8_put : mOK MX8_put 1 := ⟨lw_in 1017 (by decide +kernel) (by decide +kernel), by decide +kernel, rfl, by decide +kernel, by decide, lw_in 39 (by decide +kernel) (by decide +kernel)⟩
theorem imX8_put : Cond.instanceMethod yX8_put ∈ lw_t2 := lw_in 1016 (by decide +kernel) (by decide +kernel)
theorem mOKX9_init : mOK MX9_init 0 := ⟨lw_in 58 (by decide +kernel) (by decide +kernel), by decide +kernel, rfl, by decide +kernel, by decide, lw_in 32 (by decide +kernel) (by decide +kernel)⟩
theorem imX9_init : Cond.instanceMethod yX9_init ∈ lw_t2 := lw_in 57 (by decide +kernel) (by decide +kernel)
theorem mOKX9_ring : mOK MX9_ring 2 := ⟨lw_in 370 (by decide +kernel) (by decide +kernel), by decide +kernel, rfl, by decide +kernel, by decide, lw_in 32 (by decide +kernel) (by decide +kernel)⟩
theorem imX9_ring : Cond.instanceMethod yX9_ring ∈ lw_t2 := lw_in 368 (by decide +kernel) (by decide +kernel)
theorem mOKX9_weights : mOK MX9_weights 3 := ⟨lw_in 388 (by decide +kernel) (by decide +kernel), by decide +kernel, rfl, by decide +kernel, by decide, lw_in 32 (by decide +kernel) (by decide +kernel)⟩
theorem imX9_weights : Cond.instanceMethod yX9_weights ∈ lw_t2 := lw_in 386 (by decide +kernel) (by decide +kernel)
theorem mOKX9_feed : mOK MX9_feed 5 := ⟨lw_in 628 (by decide +kernel) (by decide +kernel), by decide +kernel, rfl, by decide +kernel, by decide, lw_in 32 (by decide +kernel) (by decide +kernel)⟩
theorem imX9_feed : Cond.instanceMethod yX9_feed ∈ lw_t2 := lw_in 626 (by decide +kernel) (by decide +kernel)
theorem mOKX9_end : mOK MX9_end 1 := ⟨lw_in 636 (by decide +kernel) (by decide +kernel), by decide +kernel, rfl, by decide +kernel, by decide, lw_in 32 (by decide +kernel) (by decide +kernel)⟩
theorem imX9_end : Cond.instanceMethod yX9_end ∈ lw_t2 := lw_in 634 (by decide +kernel) (by decide +kernel)
theorem mOKX9_poly : mOK MX9_poly 1 := ⟨lw_in 640 (by decide +kernel) (by decide +kernel), by decide +kernel, rfl, by decide +kernel, by decide, lw_in 32 (by decide +kernel) (by decide +kernel)⟩
theorem imX9_poly : Cond.instanceMethod yX9_poly ∈ lw_t2 := lw_in 638 (by decide +kernel) (by decide +kernel)
theorem mOKX9_show : mOK MX9_show 1 := ⟨lw_in 1009 (by decide +kernel) (by decide +kernel), by decide +kernel, rfl, by decide +kernel, by decide, lw_in 32 (by decide +kernel) (by decide +kernel)⟩
theorem imX9_show : Cond.instanceMethod yX9_show ∈ lw_t2 := lw_in 1007 (by decide +kernel) (by decide +kernel)
theorem mOKX9_out : mOK MX9_out 1 := ⟨lw_in 1031 (by decide +kernel) (by decide +kernel), by decide +kernel, rfl, by decide +kernel, by decide, lw_in 32 (by decide +kernel) (by decide +kernel)⟩
theorem imX9_out : Cond.instanceMethod yX9_out ∈ lw_t2 := lw_in 1029 (by decide +kernel) (by decide +kernel)
theorem mOKX9_term : mOK MX9_term 3 := ⟨lw_in 415 (by decide +kernel) (by decide +kernel), by decide +kernel, rfl, by decide +kernel, by decide, lw_in 32 (by decide +kernel) (by decide +kernel)⟩
theorem imX9_term : Cond.instanceMethod yX9_term ∈ lw_t2 := lw_in 413 (by decide +kernel) (by decide +kernel)
theorem mOKX9_shape : mOK MX9_shape 2 := ⟨lw_in 427 (by decide +kernel) (by decide +kernel), by decide +kernel, rfl, by decide +kernel, by decide, lw_in 32 (by decide +kernel) (by decide +kernel)⟩
theorem imX9_shape : Cond.instanceMethod yX9_shape ∈ lw_t2 := lw_in 425 (by decide +kernel) (by decide +kernel)
theorem mOKX9_make : mOK MX9_make 4 := ⟨lw_in 931 (by decide +kernel) (by decide +kernel), by decide +kernel, rfl, by decide +kernel, by decide, lw_in 32 (by decide +kernel) (by decide +kernel)⟩
theorem imX9_make : Cond.instanceMethod yX9_make ∈ lw_t2 := lw_in 929 (by decide +kernel) (by decide +kernel)
theorem mOKX9_weak : mOK MX9_weak 2 := ⟨lw_in 446 (by decide +kernel) (by decide +kernel), by decide +kernel, rfl, by decide +kernel, by decide, lw_in 32 (by decide +kernel) (by decide +kernel)⟩
theorem imX9_weak : Cond.instanceMethod yX9_weak ∈ lw_t2 := lw_in 444 (by decide +kernel) (by decide +kernel)
theorem mOKX9_kept : mOK MX9_kept 2 := ⟨lw_in 539 (by decide +kernel) (by decide +kernel), by decide +kernel, rfl, by decide +kernel, by decide, lw_in 32 (by decide +kernel) (by decide +kernel)⟩
theorem imX9_kept : Cond.instanceMethod yX9_kept ∈ lw_t2 := lw_in 537 (by decide +kernel) (by decide +kernel)
theorem mOKX9_step : mOK MX9_step 2 := ⟨lw_in 552 (by decide +kernel) (by decide +kernel), by decide +kernel, rfl, by decide +kernel, by decide, lw_in 32 (by decide +kernel) (by decide +kernel)⟩
theorem imX9_step : Cond.instanceMethod yX9_step ∈ lw_t2 := lw_in 550 (by decide +kernel) (by decide +kernel)
theorem mOKX9_stairs : mOK MX9_stairs 3 := ⟨lw_in 1056 (by decide +kernel) (by decide +kernel), by decide +kernel, rfl, by decide +kernel, by decide, lw_in 32 (by decide +kernel) (by decide +kernel)⟩
theorem imX9_stairs : Cond.instanceMethod yX9_stairs ∈ lw_t2 := lw_in 1054 (by decide +kernel) (by decide +kernel)
theorem mOKX9_rest : mOK MX9_rest 4 := ⟨lw_in 948 (by decide +kernel) (by decide +kernel), by decide +kernel, rfl, by decide +kernel, by decide, lw_in 32 (by decide +kernel) (by decide +kernel)⟩
theorem imX9_rest : Cond.instanceMethod yX9_rest ∈ lw_t2 := lw_in 946 (by decide +kernel) (by decide +kernel)
theorem mOKX9_look : mOK MX9_look 1 := ⟨lw_in 564 (by decide +kernel) (by decide +kernel), by decide +kernel, rfl, by decide +kernel, by decide, lw_in 32 (by decide +kernel) (by decide +kernel)⟩
theorem imX9_look : Cond.instanceMethod yX9_look ∈ lw_t2 := lw_in 562 (by decide +kernel) (by decide +kernel)
theorem mOKX9_polys : mOK MX9_polys 1 := ⟨lw_in 166 (by decide +kernel) (by decide +kernel), by decide +kernel, rfl, by decide +kernel, by decide, lw_in 32 (by decide +kernel) (by decide +kernel)⟩
theorem stX9_polys : Cond.static yX9_polys ∈ lw_t2 := lw_in 165 (by decide +kernel) (by decide +kernel)
theorem mOKX9_isPrime : mOK MX9_isPrime 1 := ⟨lw_in 373 (by decide +kernel) (by decide +kernel), by decide +kernel, rfl, by decide +kernel, by decide, lw_in 32 (by decide +kernel) (by decide +kernel)⟩
theorem stX9_isPrime : Cond.static yX9_isPrime ∈ lw_t2 := lw_in 372 (by decide +kernel) (by decide +kernel)
theorem mOKX9_isWeight : mOK MX9_isWeight 1 := ⟨lw_in 391 (by decide +kernel) (by decide +kernel), by decide +kernel, rfl, by decide +kernel, by decide, lw_in 32 (by decide +kernel) (by decide +kernel)⟩
theorem stX9_isWeight : Cond.static yX9_isWeight ∈ lw_t2 := lw_in 390 (by decide +kernel) (by decide +kernel)
theorem mOKX9_isSlot : mOK MX9_isSlot 1 := ⟨lw_in 418 (by decide +kernel) (by decide +kernel), by decide +kernel, rfl, by decide +kernel, by decide, lw_in 32 (by decide +kernel) (by decide +kernel)⟩
theorem stX9_isSlot : Cond.static yX9_isSlot ∈ lw_t2 := lw_in 417 (by decide +kernel) (by decide +kernel)
theorem mOKX9_isSet : mOK MX9_isSet 1 := ⟨lw_in 449 (by decide +kernel) (by decide +kernel), by decide +kernel, rfl, by decide +kernel, by decide, lw_in 32 (by decide +kernel) (by decide +kernel)⟩
theorem stX9_isSet : Cond.static yX9_isSet ∈ lw_t2 := lw_in 448 (by decide +kernel) (by decide +kernel)
theorem mOKX9_isBound : mOK MX9_isBound 1 := ⟨lw_in 952 (by decide +kernel) (by decide +kernel), by decide +kernel, rfl, by decide +kernel, by decide, lw_in 32 (by decide +kernel) (by decide +kernel)⟩
theorem imX9_isBound : Cond.instanceMethod yX9_isBound ∈ lw_t2 := lw_in 951 (by decide +kernel) (by decide +kernel)
theorem mOKX9_held : mOK MX9_held 1 := ⟨lw_in 453 (by decide +kernel) (by decide +kernel), by decide +kernel, rfl, by decide +kernel, by decide, lw_in 32 (by decide +kernel) (by decide +kernel)⟩
theorem imX9_held : Cond.instanceMethod yX9_held ∈ lw_t2 := lw_in 452 (by decide +kernel) (by decide +kernel)
theorem mOKX9_putSpare : mOK MX9_putSpare 1 := ⟨lw_in 548 (by decide +kernel) (by decide +kernel), by decide +kernel, rfl, by decide +kernel, by decide, lw_in 32 (by decide +kernel) (by decide +kernel)⟩
theorem imX9_putSpare : Cond.instanceMethod yX9_putSpare ∈ lw_t2 := lw_in 547 (by decide +kernel) (by decide +kernel)
theorem mOKX9_forgetWhatWasWorkedOut : mOK MX9_forgetWhatWasWorkedOut 0 := ⟨lw_in 384 (by decide +kernel) (by decide +kernel), by decide +kernel, rfl, by decide +kernel, by decide, lw_in 32 (by decide +kernel) (by decide +kernel)⟩
theorem imX9_forgetWhatWasWorkedOut : Cond.instanceMethod yX9_forgetWhatWasWorkedOut ∈ lw_t2 := lw_in 383 (by decide +kernel) (by decide +kernel)
theorem mOKX9_multiply : mOK MX9_multiply 2 := ⟨lw_in 938 (by decide +kernel) (by decide +kernel), by decide +kernel, rfl, by decide +kernel, by decide, lw_in 32 (by decide +kernel) (by decide +kernel)⟩
theorem imX9_multiply : Cond.instanceMethod yX9_multiply ∈ lw_t2 := lw_in 937 (by decide +kernel) (by decide +kernel)
theorem mOKX9_oldestIdeal : mOK MX9_oldestIdeal 0 := ⟨lw_in 960 (by decide +kernel) (by decide +kernel), by decide +kernel, rfl, by decide +kernel, by decide, lw_in 32 (by decide +kernel) (by decide +kernel)⟩
theorem imX9_oldestIdeal : Cond.instanceMethod yX9_oldestIdeal ∈ lw_t2 := lw_in 959 (by decide +kernel) (by decide +kernel)
theorem mOKX9_idealOf : mOK MX9_idealOf 1 := ⟨lw_in 956 (by decide +kernel) (by decide +kernel), by decide +kernel, rfl, by decide +kernel, by decide, lw_in 32 (by decide +kernel) (by decide +kernel)⟩
theorem imX9_idealOf : Cond.instanceMethod yX9_idealOf ∈ lw_t2 := lw_in 955 (by decide +kernel) (by decide +kernel)
theorem mOKX9_tellMono : mOK MX9_tellMono 2 := ⟨lw_in 421 (by decide +kernel) (by decide +kernel), by decide +kernel, rfl, by decide +kernel, by decide, lw_in 32 (by decide +kernel) (by decide +kernel)⟩
theorem stX9_tellMono : Cond.static yX9_tellMono ∈ lw_t2 := lw_in 420 (by decide +kernel) (by decide +kernel)
theorem mOKJ5_init_d00df : mOK MJ5_init_d00df 1 := ⟨lw_in 709 (by decide +kernel) (by decide +kernel), by decide +kernel, rfl, by decide +kernel, by decide, lw_in 44 (by decide +kernel) (by decide +kernel)⟩
theorem imJ5_init_d00df : Cond.instanceMethod yJ5_init_d00df ∈ lw_t2 := lw_in 708 (by decide +kernel) (by decide +kernel)
theorem mOKJ5_length_8abf5 : mOK MJ5_length_8abf5 0 := ⟨lw_in 884 (by decide +kernel) (by decide +kernel), by decide +kernel, rfl, by decide +kernel, by decide, lw_in 44 (by decide +kernel) (by decide +kernel)⟩
theorem imJ5_length_8abf5 : Cond.instanceMethod yJ5_length_8abf5 ∈ lw_t2 := lw_in 878 (by decide +kernel) (by decide +kernel)
theorem mOKJ5_ensureCapacityInternal_d00df : mOK MJ5_ensureCapacityInternal_d00df 1 := ⟨lw_in 750 (by decide +kernel) (by decide +kernel), by decide +kernel, rfl, by decide +kernel, by decide, lw_in 44 (by decide +kernel) (by decide +kernel)⟩
theorem imJ5_ensureCapacityInternal_d00df : Cond.instanceMethod yJ5_ensureCapacityInternal_d00df ∈ lw_t2 := lw_in 749 (by decide +kernel) (by decide +kernel)
theorem mOKJ5_newCapacity_0f7a4 : mOK MJ5_newCapacity_0f7a4 1 := ⟨lw_in 754 (by decide +kernel) (by decide +kernel), by decide +kernel, rfl, by decide +kernel, by decide, lw_in 44 (by decide +kernel) (by decide +kernel)⟩
theorem imJ5_newCapacity_0f7a4 : Cond.instanceMethod yJ5_newCapacity_0f7a4 ∈ lw_t2 := lw_in 753 (by decide +kernel) (by decide +kernel)
theorem mOKJ5_append_cf1ce : mOK MJ5_append_cf1ce 1 := ⟨lw_in 742 (by decide +kernel) (by decide +kernel), by decide +kernel, rfl, by decide +kernel, by decide, lw_in 44 (by decide +kernel) (by decide +kernel)⟩
theorem imJ5_append_cf1ce : Cond.instanceMethod yJ5_append_cf1ce ∈ lw_t2 := lw_in 741 (by decide +kernel) (by decide +kernel)
theorem mOKJ5_append_3fe6f : mOK MJ5_append_3fe6f 1 := ⟨lw_in 1038 (by decide +kernel) (by decide +kernel), by decide +kernel, rfl, by decide +kernel, by decide, lw_in 44 (by decide +kernel) (by decide +kernel)⟩
theorem imJ5_append_3fe6f : Cond.instanceMethod yJ5_append_3fe6f ∈ lw_t2 := lw_in 1037 (by decide +kernel) (by decide +kernel)
theorem mOKJ5_append_c97b9 : mOK MJ5_append_c97b9 1 := ⟨lw_in 837 (by decide +kernel) (by decide +kernel), by decide +kernel, rfl, by decide +kernel, by decide, lw_in 44 (by decide +kernel) (by decide +kernel)⟩
theorem imJ5_append_c97b9 : Cond.instanceMethod yJ5_append_c97b9 ∈ lw_t2 := lw_in 836 (by decide +kernel) (by decide +kernel)
theorem mOKJ5_getValue_6d5f1 : mOK MJ5_getValue_6d5f1 0 := ⟨lw_in 876 (by decide +kernel) (by decide +kernel), by decide +kernel, rfl, by decide +kernel, by decide, lw_in 44 (by decide +kernel) (by decide +kernel)⟩
theorem imJ5_getValue_6d5f1 : Cond.instanceMethod yJ5_getValue_6d5f1 ∈ lw_t2 := lw_in 873 (by decide +kernel) (by decide +kernel)
theorem mOKJ5_isLatin1_aae02 : mOK MJ5_isLatin1_aae02 0 := ⟨lw_in 780 (by decide +kernel) (by decide +kernel), by decide +kernel, rfl, by decide +kernel, by decide, lw_in 44 (by decide +kernel) (by decide +kernel)⟩
theorem imJ5_isLatin1_aae02 : Cond.instanceMethod yJ5_isLatin1_aae02 ∈ lw_t2 := lw_in 777 (by decide +kernel) (by decide +kernel)
theorem mOKJ5_inflateIfNeededFor_a7421 : mOK MJ5_inflateIfNeededFor_a7421 1 := ⟨lw_in 804 (by decide +kernel) (by decide +kernel), by decide +kernel, rfl, by decide +kernel, by decide, lw_in 44 (by decide +kernel) (by decide +kernel)⟩
theorem imJ5_inflateIfNeededFor_a7421 : Cond.instanceMethod yJ5_inflateIfNeededFor_a7421 ∈ lw_t2 := lw_in 803 (by decide +kernel) (by decide +kernel)
theorem mOKJ5_putStringAt_47b60 : mOK MJ5_putStringAt_47b60 2 := ⟨lw_in 800 (by decide +kernel) (by decide +kernel), by decide +kernel, rfl, by decide +kernel, by decide, lw_in 44 (by decide +kernel) (by decide +kernel)⟩
theorem imJ5_putStringAt_47b60 : Cond.instanceMethod yJ5_putStringAt_47b60 ∈ lw_t2 := lw_in 799 (by decide +kernel) (by decide +kernel)
theorem mOKJ6_getChars_ba4f3 : mOK MJ6_getChars_ba4f3 3 := ⟨lw_in 843 (by decide +kernel) (by decide +kernel), by decide +kernel, rfl, by decide +kernel, by decide, lw_in 53 (by decide +kernel) (by decide +kernel)⟩
theorem stJ6_getChars_ba4f3 : Cond.static yJ6_getChars_ba4f3 ∈ lw_t2 := lw_in 842 (by decide +kernel) (by decide +kernel)
theorem mOKJ6_stringSize_0f7a4 : mOK MJ6_stringSize_0f7a4 1 := ⟨lw_in 840 (by decide +kernel) (by decide +kernel), by decide +kernel, rfl, by decide +kernel, by decide, lw_in 53 (by decide +kernel) (by decide +kernel)⟩
theorem stJ6_stringSize_0f7a4 : Cond.static yJ6_stringSize_0f7a4 ∈ lw_t2 := lw_in 839 (by decide +kernel) (by decide +kernel)
theorem mOKJ6_bitCount_0f7a4 : mOK MJ6_bitCount_0f7a4 1 := ⟨lw_in 921 (by decide +kernel) (by decide +kernel), by decide +kernel, rfl, by decide +kernel, by decide, lw_in 53 (by decide +kernel) (by decide +kernel)⟩
theorem stJ6_bitCount_0f7a4 : Cond.static yJ6_bitCount_0f7a4 ∈ lw_t2 := lw_in 920 (by decide +kernel) (by decide +kernel)
theorem mOKJ0_init_81219 : mOK MJ0_init_81219 1 := ⟨lw_in 867 (by decide +kernel) (by decide +kernel), by decide +kernel, rfl, by decide +kernel, by decide, lw_in 46 (by decide +kernel) (by decide +kernel)⟩
theorem imJ0_init_81219 : Cond.instanceMethod yJ0_init_81219 ∈ lw_t2 := lw_in 866 (by decide +kernel) (by decide +kernel)
theorem mOKJ0_length_8abf5 : mOK MJ0_length_8abf5 0 := ⟨lw_in 580 (by decide +kernel) (by decide +kernel), by decide +kernel, rfl, by decide +kernel, by decide, lw_in 46 (by decide +kernel) (by decide +kernel)⟩
theorem imJ0_length_8abf5 : Cond.instanceMethod yJ0_length_8abf5 ∈ lw_t2 := lw_in 578 (by decide +kernel) (by decide +kernel)
theorem mOKJ0_charAt_5068e : mOK MJ0_charAt_5068e 1 := ⟨lw_in 590 (by decide +kernel) (by decide +kernel), by decide +kernel, rfl, by decide +kernel, by decide, lw_in 46 (by decide +kernel) (by decide +kernel)⟩
theorem imJ0_charAt_5068e : Cond.instanceMethod yJ0_charAt_5068e ∈ lw_t2 := lw_in 588 (by decide +kernel) (by decide +kernel)
theorem mOKJ0_equals_9ea2d : mOK MJ0_equals_9ea2d 1 := ⟨lw_in 1048 (by decide +kernel) (by decide +kernel), by decide +kernel, rfl, by decide +kernel, by decide, lw_in 46 (by decide +kernel) (by decide +kernel)⟩
theorem imJ0_equals_9ea2d : Cond.instanceMethod yJ0_equals_9ea2d ∈ lw_t2 := lw_in 1046 (by decide +kernel) (by decide +kernel)
theorem mOKJ0_getBytes_840e7 : mOK MJ0_getBytes_840e7 3 := ⟨lw_in 828 (by decide +kernel) (by decide +kernel), by decide +kernel, rfl, by decide +kernel, by decide, lw_in 46 (by decide +kernel) (by decide +kernel)⟩
theorem imJ0_getBytes_840e7 : Cond.instanceMethod yJ0_getBytes_840e7 ∈ lw_t2 := lw_in 826 (by decide +kernel) (by decide +kernel)
theorem mOKJ0_init_db425 : mOK MJ0_init_db425 2 := ⟨lw_in 870 (by decide +kernel) (by decide +kernel), by decide +kernel, rfl, by decide +kernel, by decide, lw_in 46 (by decide +kernel) (by decide +kernel)⟩
theorem imJ0_init_db425 : Cond.instanceMethod yJ0_init_db425 ∈ lw_t2 := lw_in 869 (by decide +kernel) (by decide +kernel)
theorem mOKJ0_coder_7d493 : mOK MJ0_coder_7d493 0 := ⟨lw_in 584 (by decide +kernel) (by decide +kernel), by decide +kernel, rfl, by decide +kernel, by decide, lw_in 46 (by decide +kernel) (by decide +kernel)⟩
theorem imJ0_coder_7d493 : Cond.instanceMethod yJ0_coder_7d493 ∈ lw_t2 := lw_in 582 (by decide +kernel) (by decide +kernel)
theorem mOKJ0_isLatin1_aae02 : mOK MJ0_isLatin1_aae02 0 := ⟨lw_in 594 (by decide +kernel) (by decide +kernel), by decide +kernel, rfl, by decide +kernel, by decide, lw_in 46 (by decide +kernel) (by decide +kernel)⟩
theorem imJ0_isLatin1_aae02 : Cond.instanceMethod yJ0_isLatin1_aae02 ∈ lw_t2 := lw_in 592 (by decide +kernel) (by decide +kernel)
theorem mOKJ0_checkIndex_df160 : mOK MJ0_checkIndex_df160 2 := ⟨lw_in 600 (by decide +kernel) (by decide +kernel), by decide +kernel, rfl, by decide +kernel, by decide, lw_in 46 (by decide +kernel) (by decide +kernel)⟩
theorem stJ0_checkIndex_df160 : Cond.static yJ0_checkIndex_df160 ∈ lw_t2 := lw_in 599 (by decide +kernel) (by decide +kernel)
theorem mOKJ4_init_da8c8 : mOK MJ4_init_da8c8 0 := ⟨lw_in 706 (by decide +kernel) (by decide +kernel), by decide +kernel, rfl, by decide +kernel, by decide, lw_in 45 (by decide +kernel) (by decide +kernel)⟩
theorem imJ4_init_da8c8 : Cond.instanceMethod yJ4_init_da8c8 ∈ lw_t2 := lw_in 705 (by decide +kernel) (by decide +kernel)
theorem mOKJ4_append_15ec4 : mOK MJ4_append_15ec4 1 := ⟨lw_in 739 (by decide +kernel) (by decide +kernel), by decide +kernel, rfl, by decide +kernel, by decide, lw_in 45 (by decide +kernel) (by decide +kernel)⟩
theorem imJ4_append_15ec4 : Cond.instanceMethod yJ4_append_15ec4 ∈ lw_t2 := lw_in 737 (by decide +kernel) (by decide +kernel)
theorem mOKJ4_append_cf468 : mOK MJ4_append_cf468 1 := ⟨lw_in 1035 (by decide +kernel) (by decide +kernel), by decide +kernel, rfl, by decide +kernel, by decide, lw_in 45 (by decide +kernel) (by decide +kernel)⟩
theorem imJ4_append_cf468 : Cond.instanceMethod yJ4_append_cf468 ∈ lw_t2 := lw_in 1033 (by decide +kernel) (by decide +kernel)
theorem mOKJ4_append_bf812 : mOK MJ4_append_bf812 1 := ⟨lw_in 834 (by decide +kernel) (by decide +kernel), by decide +kernel, rfl, by decide +kernel, by decide, lw_in 45 (by decide +kernel) (by decide +kernel)⟩
theorem imJ4_append_bf812 : Cond.instanceMethod yJ4_append_bf812 ∈ lw_t2 := lw_in 832 (by decide +kernel) (by decide +kernel)
theorem mOKJ4_toString_0e30d : mOK MJ4_toString_0e30d 0 := ⟨lw_in 862 (by decide +kernel) (by decide +kernel), by decide +kernel, rfl, by decide +kernel, by decide, lw_in 45 (by decide +kernel) (by decide +kernel)⟩
theorem imJ4_toString_0e30d : Cond.instanceMethod yJ4_toString_0e30d ∈ lw_t2 := lw_in 860 (by decide +kernel) (by decide +kernel)
theorem mOKJ4_length_8abf5 : mOK MJ4_length_8abf5 0 := ⟨lw_in 882 (by decide +kernel) (by decide +kernel), by decide +kernel, rfl, by decide +kernel, by decide, lw_in 45 (by decide +kernel) (by decide +kernel)⟩
theorem imJ4_length_8abf5 : Cond.instanceMethod yJ4_length_8abf5 ∈ lw_t2 := lw_in 881 (by decide +kernel) (by decide +kernel)
theorem mOKJ1_charAt_3b067 : mOK MJ1_charAt_3b067 2 := ⟨lw_in 597 (by decide +kernel) (by decide +kernel), by decide +kernel, rfl, by decide +kernel, by decide, lw_in 51 (by decide +kernel) (by decide +kernel)⟩
theorem stJ1_charAt_3b067 : Cond.static yJ1_charAt_3b067 ∈ lw_t2 := lw_in 596 (by decide +kernel) (by decide +kernel)
theorem mOKJ1_canEncode_fc78d : mOK MJ1_canEncode_fc78d 1 := ⟨lw_in 1041 (by decide +kernel) (by decide +kernel), by decide +kernel, rfl, by decide +kernel, by decide, lw_in 51 (by decide +kernel) (by decide +kernel)⟩
theorem stJ1_canEncode_fc78d : Cond.static yJ1_canEncode_fc78d ∈ lw_t2 := lw_in 1040 (by decide +kernel) (by decide +kernel)
theorem mOKJ1_equals_b5fdf : mOK MJ1_equals_b5fdf 2 := ⟨lw_in 1052 (by decide +kernel) (by decide +kernel), by decide +kernel, rfl, by decide +kernel, by decide, lw_in 51 (by decide +kernel) (by decide +kernel)⟩
theorem stJ1_equals_b5fdf : Cond.static yJ1_equals_b5fdf ∈ lw_t2 := lw_in 1051 (by decide +kernel) (by decide +kernel)
theorem mOKJ7_fill_53178 : mOK MJ7_fill_53178 2 := ⟨lw_in 660 (by decide +kernel) (by decide +kernel), by decide +kernel, rfl, by decide +kernel, by decide, lw_in 49 (by decide +kernel) (by decide +kernel)⟩
theorem stJ7_fill_53178 : Cond.static yJ7_fill_53178 ∈ lw_t2 := lw_in 659 (by decide +kernel) (by decide +kernel)
theorem mOKJ7_copyOf_9075b : mOK MJ7_copyOf_9075b 2 := ⟨lw_in 766 (by decide +kernel) (by decide +kernel), by decide +kernel, rfl, by decide +kernel, by decide, lw_in 49 (by decide +kernel) (by decide +kernel)⟩
theorem stJ7_copyOf_9075b : Cond.static yJ7_copyOf_9075b ∈ lw_t2 := lw_in 765 (by decide +kernel) (by decide +kernel)
theorem mOKJ7_checkLength_df160 : mOK MJ7_checkLength_df160 2 := ⟨lw_in 894 (by decide +kernel) (by decide +kernel), by decide +kernel, rfl, by decide +kernel, by decide, lw_in 49 (by decide +kernel) (by decide +kernel)⟩
theorem stJ7_checkLength_df160 : Cond.static yJ7_checkLength_df160 ∈ lw_t2 := lw_in 893 (by decide +kernel) (by decide +kernel)
theorem mOKJ7_copyOfRange_39247 : mOK MJ7_copyOfRange_39247 3 := ⟨lw_in 888 (by decide +kernel) (by decide +kernel), by decide +kernel, rfl, by decide +kernel, by decide, lw_in 49 (by decide +kernel) (by decide +kernel)⟩
theorem stJ7_copyOfRange_39247 : Cond.static yJ7_copyOfRange_39247 ∈ lw_t2 := lw_in 887 (by decide +kernel) (by decide +kernel)
theorem mOKJ7_copyOfRangeByte_39247 : mOK MJ7_copyOfRangeByte_39247 3 := ⟨lw_in 891 (by decide +kernel) (by decide +kernel), by decide +kernel, rfl, by decide +kernel, by decide, lw_in 49 (by decide +kernel) (by decide +kernel)⟩
theorem stJ7_copyOfRangeByte_39247 : Cond.static yJ7_copyOfRangeByte_39247 ∈ lw_t2 := lw_in 890 (by decide +kernel) (by decide +kernel)
theorem mOKJ8_newLength_cabcc : mOK MJ8_newLength_cabcc 3 := ⟨lw_in 757 (by decide +kernel) (by decide +kernel), by decide +kernel, rfl, by decide +kernel, by decide, lw_in 48 (by decide +kernel) (by decide +kernel)⟩
theorem stJ8_newLength_cabcc : Cond.static yJ8_newLength_cabcc ∈ lw_t2 := lw_in 756 (by decide +kernel) (by decide +kernel)
theorem mOKJ3_checkIndex_8e157 : mOK MJ3_checkIndex_8e157 3 := ⟨lw_in 605 (by decide +kernel) (by decide +kernel), by decide +kernel, rfl, by decide +kernel, by decide, lw_in 50 (by decide +kernel) (by decide +kernel)⟩
theorem stJ3_checkIndex_8e157 : Cond.static yJ3_checkIndex_8e157 ∈ lw_t2 := lw_in 604 (by decide +kernel) (by decide +kernel)
theorem mOKL_cell : mOK ML_cell 2 := ⟨lw_in 568 (by decide +kernel) (by decide +kernel), by decide +kernel, rfl, by decide +kernel, by decide, lw_in 31 (by decide +kernel) (by decide +kernel)⟩
theorem stL_cell : Cond.static yL_cell ∈ lw_t2 := lw_in 567 (by decide +kernel) (by decide +kernel)
theorem mOKL_between : mOK ML_between 3 := ⟨lw_in 572 (by decide +kernel) (by decide +kernel), by decide +kernel, rfl, by decide +kernel, by decide, lw_in 31 (by decide +kernel) (by decide +kernel)⟩
theorem stL_between : Cond.static yL_between ∈ lw_t2 := lw_in 571 (by decide +kernel) (by decide +kernel)
theorem mOKL_poly : mOK ML_poly 3 := ⟨lw_in 576 (by decide +kernel) (by decide +kernel), by decide +kernel, rfl, by decide +kernel, by decide, lw_in 31 (by decide +kernel) (by decide +kernel)⟩
theorem stL_poly : Cond.static yL_poly ∈ lw_t2 := lw_in 575 (by decide +kernel) (by decide +kernel)
theorem mOKL_said : mOK ML_said 2 := ⟨lw_in 1005 (by decide +kernel) (by decide +kernel), by decide +kernel, rfl, by decide +kernel, by decide, lw_in 31 (by decide +kernel) (by decide +kernel)⟩
theorem stL_said : Cond.static yL_said ∈ lw_t2 := lw_in 1004 (by decide +kernel) (by decide +kernel)
theorem mOKL_drawn : mOK ML_drawn 5 := ⟨lw_in 701 (by decide +kernel) (by decide +kernel), by decide +kernel, rfl, by decide +kernel, by decide, lw_in 31 (by decide +kernel) (by decide +kernel)⟩
theorem stL_drawn : Cond.static yL_drawn ∈ lw_t2 := lw_in 700 (by decide +kernel) (by decide +kernel)
theorem mOKL_isStepped : mOK ML_isStepped 2 := ⟨lw_in 918 (by decide +kernel) (by decide +kernel), by decide +kernel, rfl, by decide +kernel, by decide, lw_in 31 (by decide +kernel) (by decide +kernel)⟩
theorem stL_isStepped : Cond.static yL_isStepped ∈ lw_t2 := lw_in 917 (by decide +kernel) (by decide +kernel)
theorem mOKL_isWhole : mOK ML_isWhole 2 := ⟨lw_in 927 (by decide +kernel) (by decide +kernel), by decide +kernel, rfl, by decide +kernel, by decide, lw_in 31 (by decide +kernel) (by decide +kernel)⟩
theorem stL_isWhole : Cond.static yL_isWhole ∈ lw_t2 := lw_in 926 (by decide +kernel) (by decide +kernel)
theorem mOKL_isLeft : mOK ML_isLeft 2 := ⟨lw_in 941 (by decide +kernel) (by decide +kernel), by decide +kernel, rfl, by decide +kernel, by decide, lw_in 31 (by decide +kernel) (by decide +kernel)⟩
theorem stL_isLeft : Cond.static yL_isLeft ∈ lw_t2 := lw_in 940 (by decide +kernel) (by decide +kernel)
theorem mOKL_isRest : mOK ML_isRest 3 := ⟨lw_in 944 (by decide +kernel) (by decide +kernel), by decide +kernel, rfl, by decide +kernel, by decide, lw_in 31 (by decide +kernel) (by decide +kernel)⟩
theorem stL_isRest : Cond.static yL_isRest ∈ lw_t2 := lw_in 943 (by decide +kernel) (by decide +kernel)
theorem oc : Cond.instanceMethod Lib.objectInit ∈ lw_t2 ∧ Cond.code Lib.objectInit ⟨#[0xb1]⟩ 1 none ∈ lw_t2 := ⟨lw_in 60 (by decide +kernel) (by decide +kernel), lw_in 61 (by decide +kernel) (by decide +kernel)⟩
theorem moX5_3 : Cond.methodLink RX5 3 Lib.objectInit ∈ lw_t2 := lw_in 174 (by decide +kernel) (by decide +kernel)
theorem mxmax : Cond.static Lib.Math.max.name ∈ lw_t2 ∧ Cond.initialized "java/lang/Math" ∈ lw_t2 ∧ Cond.code Lib.Math.max.name Lib.Math.max.code 2 (some .int) ∈ lw_t2 := ⟨lw_in 75 (by decide +kernel) (by decide +kernel), lw_in 35 (by decide +kernel) (by decide +kernel), lw_in 76 (by decide +kernel) (by decide +kernel)⟩
theorem mmX5_9 : Cond.methodLink RX5 9 Lib.Math.max.name ∈ lw_t2 := lw_in 175 (by decide +kernel) (by decide +kernel)
theorem acint : Cond.arrayClass (newarray.typeOf .int) ∈ lw_t2 := lw_in 163 (by decide +kernel) (by decide +kernel)
theorem flX5_15 : FLk RX5 15 4 0 := ⟨by decide, by decide, lw_in 176 (by decide +kernel) (by decide +kernel)⟩
theorem flX5_21 : FLk RX5 21 4 1 := ⟨by decide, by decide, lw_in 181 (by decide +kernel) (by decide +kernel)⟩
theorem mmX9_259 : Cond.methodLink RX9 259 Lib.Math.max.name ∈ lw_t2 := lw_in 167 (by decide +kernel) (by decide +kernel)
theorem clX9_55 : Cond.classLink RX9 55 RX5 ∈ lw_t2 := lw_in 168 (by decide +kernel) (by decide +kernel)
theorem is4 : Cond.instantiable (clC 4) (clN 4) ∈ lw_t2 := lw_in 170 (by decide +kernel) (by decide +kernel)
theorem ii4 : Cond.initialized (clC 4) ∈ lw_t2 := lw_in 37 (by decide +kernel) (by decide +kernel)
theorem mlX9_57 : Cond.methodLink RX9 57 yX5_init ∈ lw_t2 := lw_in 171 (by decide +kernel) (by decide +kernel)
theorem moX1_3 : Cond.methodLink RX1 3 Lib.objectInit ∈ lw_t2 := lw_in 263 (by decide +kernel) (by decide +kernel)
theorem clX1_9 : Cond.classLink RX1 9 RX5 ∈ lw_t2 := lw_in 264 (by decide +kernel) (by decide +kernel)
theorem flX1_14 : FLk RX1 14 1 0 := ⟨by decide, by decide, lw_in 267 (by decide +kernel) (by decide +kernel)⟩
theorem flX1_20 : FLk RX1 20 1 1 := ⟨by decide, by decide, lw_in 269 (by decide +kernel) (by decide +kernel)⟩
theorem flX1_27 : FLk RX1 27 1 2 := ⟨by decide, by decide, lw_in 271 (by decide +kernel) (by decide +kernel)⟩
theorem mnX1_23 : Cond.methodLinkNest RX1 23 yX9_polys "StairsNear" ∈ lw_n := lw_nin 266 (by decide +kernel) (by decide +kernel)
theorem mlX1_11 : Cond.methodLink RX1 11 yX5_init ∈ lw_t2 := lw_in 265 (by decide +kernel) (by decide +kernel)
theorem moX0_3 : Cond.methodLink RX0 3 Lib.objectInit ∈ lw_t2 := lw_in 255 (by decide +kernel) (by decide +kernel)
theorem clX0_9 : Cond.classLink RX0 9 RX1 ∈ lw_t2 := lw_in 256 (by decide +kernel) (by decide +kernel)
theorem flX0_11 : FLk RX0 11 0 5 := ⟨by decide, by decide, lw_in 288 (by decide +kernel) (by decide +kernel)⟩
theorem clX0_17 : Cond.classLink RX0 17 "[[I" ∈ lw_t2 := lw_in 258 (by decide +kernel) (by decide +kernel)
theorem flX0_19 : FLk RX0 19 0 6 := ⟨by decide, by decide, lw_in 289 (by decide +kernel) (by decide +kernel)⟩
theorem is1 : Cond.instantiable (clC 1) (clN 1) ∈ lw_t2 := lw_in 259 (by decide +kernel) (by decide +kernel)
theorem ii1 : Cond.initialized (clC 1) ∈ lw_t2 := lw_in 41 (by decide +kernel) (by decide +kernel)
theorem flX0_23 : FLk RX0 23 0 7 := ⟨by decide, by decide, lw_in 290 (by decide +kernel) (by decide +kernel)⟩
theorem flX0_27 : FLk RX0 27 0 8 := ⟨by decide, by decide, lw_in 291 (by decide +kernel) (by decide +kernel)⟩
theorem mnX0_22 : Cond.methodLinkNest RX0 22 yX1_init "StairsNear" ∈ lw_n := lw_nin 260 (by decide +kernel) (by decide +kernel)
theorem flX5_24 : FLk RX5 24 4 2 := ⟨by decide, by decide, lw_in 186 (by decide +kernel) (by decide +kernel)⟩
theorem mxmin : Cond.static Lib.Math.min.name ∈ lw_t2 ∧ Cond.initialized "java/lang/Math" ∈ lw_t2 ∧ Cond.code Lib.Math.min.name Lib.Math.min.code 2 (some .int) ∈ lw_t2 := ⟨lw_in 127 (by decide +kernel) (by decide +kernel), lw_in 35 (by decide +kernel) (by decide +kernel), lw_in 128 (by decide +kernel) (by decide +kernel)⟩
theorem mmX5_45 : Cond.methodLink RX5 45 Lib.Math.min.name ∈ lw_t2 := lw_in 470 (by decide +kernel) (by decide +kernel)
theorem acp : Cond.native arraycopyName ∈ lw_t2 ∧ Cond.static arraycopyName ∈ lw_t2 ∧ Cond.initialized "java/lang/System" ∈ lw_t2 := ⟨lw_in 473 (by decide +kernel) (by decide +kernel), lw_in 472 (by decide +kernel) (by decide +kernel), lw_in 43 (by decide +kernel) (by decide +kernel)⟩
theorem maX5_48 : Cond.methodLink RX5 48 arraycopyName ∈ lw_t2 := lw_in 471 (by decide +kernel) (by decide +kernel)
theorem mlX1_35 : Cond.methodLink RX1 35 yX5_clear ∈ lw_t2 := lw_in 474 (by decide +kernel) (by decide +kernel)
theorem seX5_clear : Cond.selects (mY MX5_clear).cls yX5_clear yX5_clear ∈ lw_t2 := lw_in 379 (by decide +kernel) (by decide +kernel)
theorem mlX1_31 : Cond.methodLink RX1 31 yX5_become ∈ lw_t2 := lw_in 466 (by decide +kernel) (by decide +kernel)
theorem seX5_become : Cond.selects (mY MX5_become).cls yX5_become yX5_become ∈ lw_t2 := lw_in 468 (by decide +kernel) (by decide +kernel)
theorem flX4_13 : FLk RX4 13 3 0 := ⟨by decide, by decide, lw_in 77 (by decide +kernel) (by decide +kernel)⟩
theorem cnX3_13 : Jvm.Cond.constant RX3 13 (Int32.ofInt (262143)) ∈ lw_t2 := lw_in 103 (by decide +kernel) (by decide +kernel)
theorem cnX3_18 : Jvm.Cond.constant RX3 18 (Int32.ofInt (133152)) ∈ lw_t2 := lw_in 491 (by decide +kernel) (by decide +kernel)
theorem mlX5_41 : Cond.methodLink RX5 41 yX3_isTooHigh ∈ lw_t2 := lw_in 488 (by decide +kernel) (by decide +kernel)
theorem cnX5_54 : Jvm.Cond.constant RX5 54 (Int32.ofInt (262143)) ∈ lw_t2 := lw_in 483 (by decide +kernel) (by decide +kernel)
theorem mlX5_55 : Cond.methodLink RX5 55 yX5_append ∈ lw_t2 := lw_in 484 (by decide +kernel) (by decide +kernel)
theorem seX5_append : Cond.selects (mY MX5_append).cls yX5_append yX5_append ∈ lw_t2 := lw_in 486 (by decide +kernel) (by decide +kernel)
theorem flX0_57 : FLk RX0 57 0 1 := ⟨by decide, by decide, lw_in 282 (by decide +kernel) (by decide +kernel)⟩
theorem flX0_67 : FLk RX0 67 0 2 := ⟨by decide, by decide, lw_in 284 (by decide +kernel) (by decide +kernel)⟩
theorem flX0_46 : FLk RX0 46 0 3 := ⟨by decide, by decide, lw_in 286 (by decide +kernel) (by decide +kernel)⟩
theorem flX0_64 : FLk RX0 64 0 4 := ⟨by decide, by decide, lw_in 287 (by decide +kernel) (by decide +kernel)⟩
theorem flX0_60 : FLk RX0 60 1 2 := ⟨by decide, by decide, lw_in 272 (by decide +kernel) (by decide +kernel)⟩
theorem mlX0_79 : Cond.methodLink RX0 79 yX5_becomeNumber ∈ lw_t2 := lw_in 479 (by decide +kernel) (by decide +kernel)
theorem seX5_becomeNumber : Cond.selects (mY MX5_becomeNumber).cls yX5_becomeNumber yX5_becomeNumber ∈ lw_t2 := lw_in 481 (by decide +kernel) (by decide +kernel)
theorem mlX0_73 : Cond.methodLink RX0 73 yX4_negative ∈ lw_t2 := lw_in 475 (by decide +kernel) (by decide +kernel)
theorem seX4_negative : Cond.selects (mY MX4_negative).cls yX4_negative yX4_negative ∈ lw_t2 := lw_in 477 (by decide +kernel) (by decide +kernel)
theorem mlX0_70 : Cond.methodLink RX0 70 yX1_begin ∈ lw_t2 := lw_in 462 (by decide +kernel) (by decide +kernel)
theorem seX1_begin : Cond.selects (mY MX1_begin).cls yX1_begin yX1_begin ∈ lw_t2 := lw_in 464 (by decide +kernel) (by decide +kernel)
theorem flX0_54 : FLk RX0 54 1 1 := ⟨by decide, by decide, lw_in 270 (by decide +kernel) (by decide +kernel)⟩
theorem mlX3_14 : Cond.methodLink RX3 14 yX3_exponent ∈ lw_t2 := lw_in 499 (by decide +kernel) (by decide +kernel)
theorem mlX5_28 : Cond.methodLink RX5 28 yX3_degree ∈ lw_t2 := lw_in 432 (by decide +kernel) (by decide +kernel)
theorem mlX5_38 : Cond.methodLink RX5 38 yX5_low ∈ lw_t2 := lw_in 442 (by decide +kernel) (by decide +kernel)
theorem seX5_low : Cond.selects (mY MX5_low).cls yX5_low yX5_low ∈ lw_t2 := lw_in 430 (by decide +kernel) (by decide +kernel)
theorem mlX5_34 : Cond.methodLink RX5 34 yX5_high ∈ lw_t2 := lw_in 441 (by decide +kernel) (by decide +kernel)
theorem seX5_high : Cond.selects (mY MX5_high).cls yX5_high yX5_high ∈ lw_t2 := lw_in 435 (by decide +kernel) (by decide +kernel)
theorem flX0_50 : FLk RX0 50 1 0 := ⟨by decide, by decide, lw_in 268 (by decide +kernel) (by decide +kernel)⟩
theorem flX0_85 : FLk RX0 85 4 2 := ⟨by decide, by decide, lw_in 189 (by decide +kernel) (by decide +kernel)⟩
theorem flX0_88 : FLk RX0 88 4 0 := ⟨by decide, by decide, lw_in 178 (by decide +kernel) (by decide +kernel)⟩
theorem mlX0_92 : Cond.methodLink RX0 92 yX3_divides ∈ lw_t2 := lw_in 496 (by decide +kernel) (by decide +kernel)
theorem mlX0_98 : Cond.methodLink RX0 98 yX5_ecart ∈ lw_t2 := lw_in 500 (by decide +kernel) (by decide +kernel)
theorem seX5_ecart : Cond.selects (mY MX5_ecart).cls yX5_ecart yX5_ecart ∈ lw_t2 := lw_in 439 (by decide +kernel) (by decide +kernel)
theorem cnX5_79 : Jvm.Cond.constant RX5 79 (Int32.ofInt (2147483647)) ∈ lw_t2 := lw_in 534 (by decide +kernel) (by decide +kernel)
theorem mlX5_80 : Cond.methodLink RX5 80 yX3_times ∈ lw_t2 := lw_in 535 (by decide +kernel) (by decide +kernel)
theorem mlX5_81 : Cond.methodLink RX5 81 yX4_plusTimes ∈ lw_t2 := lw_in 404 (by decide +kernel) (by decide +kernel)
theorem seX4_plusTimes : Cond.selects (mY MX4_plusTimes).cls yX4_plusTimes yX4_plusTimes ∈ lw_t2 := lw_in 406 (by decide +kernel) (by decide +kernel)
theorem mlX1_38 : Cond.methodLink RX1 38 yX5_mix ∈ lw_t2 := lw_in 530 (by decide +kernel) (by decide +kernel)
theorem seX5_mix : Cond.selects (mY MX5_mix).cls yX5_mix yX5_mix ∈ lw_t2 := lw_in 532 (by decide +kernel) (by decide +kernel)
theorem mlX4_19 : Cond.methodLink RX4 19 yX4_times ∈ lw_t2 := lw_in 518 (by decide +kernel) (by decide +kernel)
theorem seX4_times : Cond.selects (mY MX4_times).cls yX4_times yX4_times ∈ lw_t2 := lw_in 520 (by decide +kernel) (by decide +kernel)
theorem flX0_112 : FLk RX0 112 4 1 := ⟨by decide, by decide, lw_in 183 (by decide +kernel) (by decide +kernel)⟩
theorem mlX0_125 : Cond.methodLink RX0 125 yX1_mix ∈ lw_t2 := lw_in 526 (by decide +kernel) (by decide +kernel)
theorem seX1_mix : Cond.selects (mY MX1_mix).cls yX1_mix yX1_mix ∈ lw_t2 := lw_in 528 (by decide +kernel) (by decide +kernel)
theorem mlX0_122 : Cond.methodLink RX0 122 yX3_by ∈ lw_t2 := lw_in 523 (by decide +kernel) (by decide +kernel)
theorem mlX0_118 : Cond.methodLink RX0 118 yX4_times ∈ lw_t2 := lw_in 522 (by decide +kernel) (by decide +kernel)
theorem mlX0_115 : Cond.methodLink RX0 115 yX4_inverse ∈ lw_t2 := lw_in 514 (by decide +kernel) (by decide +kernel)
theorem seX4_inverse : Cond.selects (mY MX4_inverse).cls yX4_inverse yX4_inverse ∈ lw_t2 := lw_in 516 (by decide +kernel) (by decide +kernel)
theorem mlX0_108 : Cond.methodLink RX0 108 yX0_subtract ∈ lw_t2 := lw_in 510 (by decide +kernel) (by decide +kernel)
theorem seX0_subtract : Cond.selects (mY MX0_subtract).cls yX0_subtract yX0_subtract ∈ lw_t2 := lw_in 8 (by decide +kernel) (by decide +kernel)
theorem mlX0_104 : Cond.methodLink RX0 104 yX1_become ∈ lw_t2 := lw_in 506 (by decide +kernel) (by decide +kernel)
theorem seX1_become : Cond.selects (mY MX1_become).cls yX1_become yX1_become ∈ lw_t2 := lw_in 508 (by decide +kernel) (by decide +kernel)
theorem mlX0_101 : Cond.methodLink RX0 101 yX5_low ∈ lw_t2 := lw_in 505 (by decide +kernel) (by decide +kernel)
theorem mlX0_34 : Cond.methodLink RX0 34 yX0_bestDivisor ∈ lw_t2 := lw_in 492 (by decide +kernel) (by decide +kernel)
theorem seX0_bestDivisor : Cond.selects (mY MX0_bestDivisor).cls yX0_bestDivisor yX0_bestDivisor ∈ lw_t2 := lw_in 6 (by decide +kernel) (by decide +kernel)
theorem mlX0_30 : Cond.methodLink RX0 30 yX0_begin ∈ lw_t2 := lw_in 458 (by decide +kernel) (by decide +kernel)
theorem seX0_begin : Cond.selects (mY MX0_begin).cls yX0_begin yX0_begin ∈ lw_t2 := lw_in 5 (by decide +kernel) (by decide +kernel)
theorem mlX0_38 : Cond.methodLink RX0 38 yX0_stepBy ∈ lw_t2 := lw_in 501 (by decide +kernel) (by decide +kernel)
theorem seX0_stepBy : Cond.selects (mY MX0_stepBy).cls yX0_stepBy yX0_stepBy ∈ lw_t2 := lw_in 7 (by decide +kernel) (by decide +kernel)
theorem flX0_42 : FLk RX0 42 0 0 := ⟨by decide, by decide, lw_in 280 (by decide +kernel) (by decide +kernel)⟩
theorem moX2_3 : Cond.methodLink RX2 3 Lib.objectInit ∈ lw_t2 := lw_in 317 (by decide +kernel) (by decide +kernel)
theorem flX2_9 : FLk RX2 9 2 0 := ⟨by decide, by decide, lw_in 319 (by decide +kernel) (by decide +kernel)⟩
theorem clX2_15 : Cond.classLink RX2 15 "[[I" ∈ lw_t2 := lw_in 318 (by decide +kernel) (by decide +kernel)
theorem flX2_17 : FLk RX2 17 2 1 := ⟨by decide, by decide, lw_in 321 (by decide +kernel) (by decide +kernel)⟩
theorem flX2_20 : FLk RX2 20 2 2 := ⟨by decide, by decide, lw_in 322 (by decide +kernel) (by decide +kernel)⟩
theorem flX2_24 : FLk RX2 24 2 3 := ⟨by decide, by decide, lw_in 323 (by decide +kernel) (by decide +kernel)⟩
theorem flX6_9 : FLk RX6 9 5 0 := ⟨by decide, by decide, lw_in 129 (by decide +kernel) (by decide +kernel)⟩
theorem flX6_31 : FLk RX6 31 5 4 := ⟨by decide, by decide, lw_in 142 (by decide +kernel) (by decide +kernel)⟩
theorem mlX6_43 : Cond.methodLink RX6 43 yX6_bound ∈ lw_t2 := lw_in 88 (by decide +kernel) (by decide +kernel)
theorem seX6_bound : Cond.selects (mY MX6_bound).cls yX6_bound yX6_bound ∈ lw_t2 := lw_in 90 (by decide +kernel) (by decide +kernel)
theorem mmX6_75 : Cond.methodLink RX6 75 Lib.Math.min.name ∈ lw_t2 := lw_in 126 (by decide +kernel) (by decide +kernel)
theorem mlX6_72 : Cond.methodLink RX6 72 yX6_width ∈ lw_t2 := lw_in 111 (by decide +kernel) (by decide +kernel)
theorem seX6_width : Cond.selects (mY MX6_width).cls yX6_width yX6_width ∈ lw_t2 := lw_in 113 (by decide +kernel) (by decide +kernel)
theorem flX6_28 : FLk RX6 28 5 3 := ⟨by decide, by decide, lw_in 140 (by decide +kernel) (by decide +kernel)⟩
theorem mlX2_39 : Cond.methodLink RX2 39 yJ7_fill_53178 ∈ lw_t2 := lw_in 967 (by decide +kernel) (by decide +kernel)
theorem flX2_110 : FLk RX2 110 4 2 := ⟨by decide, by decide, lw_in 190 (by decide +kernel) (by decide +kernel)⟩
theorem flX2_113 : FLk RX2 113 4 0 := ⟨by decide, by decide, lw_in 179 (by decide +kernel) (by decide +kernel)⟩
theorem flX2_118 : FLk RX2 118 4 1 := ⟨by decide, by decide, lw_in 184 (by decide +kernel) (by decide +kernel)⟩
theorem mlX2_114 : Cond.methodLink RX2 114 yX6_column ∈ lw_t2 := lw_in 972 (by decide +kernel) (by decide +kernel)
theorem seX6_column : Cond.selects (mY MX6_column).cls yX6_column yX6_column ∈ lw_t2 := lw_in 124 (by decide +kernel) (by decide +kernel)
theorem mlX2_124 : Cond.methodLink RX2 124 yX4_inverse ∈ lw_t2 := lw_in 981 (by decide +kernel) (by decide +kernel)
theorem mlX2_129 : Cond.methodLink RX2 129 yX4_times ∈ lw_t2 := lw_in 982 (by decide +kernel) (by decide +kernel)
theorem mlX2_132 : Cond.methodLink RX2 132 yX4_negative ∈ lw_t2 := lw_in 987 (by decide +kernel) (by decide +kernel)
theorem mlX2_135 : Cond.methodLink RX2 135 yX4_plusTimes ∈ lw_t2 := lw_in 988 (by decide +kernel) (by decide +kernel)
theorem mlX2_121 : Cond.methodLink RX2 121 yX2_storeRow ∈ lw_t2 := lw_in 977 (by decide +kernel) (by decide +kernel)
theorem seX2_storeRow : Cond.selects (mY MX2_storeRow).cls yX2_storeRow yX2_storeRow ∈ lw_t2 := lw_in 23 (by decide +kernel) (by decide +kernel)
theorem mlX2_100 : Cond.methodLink RX2 100 yX2_subtractRow ∈ lw_t2 := lw_in 983 (by decide +kernel) (by decide +kernel)
theorem seX2_subtractRow : Cond.selects (mY MX2_subtractRow).cls yX2_subtractRow yX2_subtractRow ∈ lw_t2 := lw_in 24 (by decide +kernel) (by decide +kernel)
theorem mmX2_33 : Cond.methodLink RX2 33 Lib.Math.min.name ∈ lw_t2 := lw_in 966 (by decide +kernel) (by decide +kernel)
theorem mlX2_27 : Cond.methodLink RX2 27 yX6_width ∈ lw_t2 := lw_in 965 (by decide +kernel) (by decide +kernel)
theorem flX2_49 : FLk RX2 49 5 1 := ⟨by decide, by decide, lw_in 135 (by decide +kernel) (by decide +kernel)⟩
theorem mlX2_53 : Cond.methodLink RX2 53 yX2_insertLine ∈ lw_t2 := lw_in 973 (by decide +kernel) (by decide +kernel)
theorem seX2_insertLine : Cond.selects (mY MX2_insertLine).cls yX2_insertLine yX2_insertLine ∈ lw_t2 := lw_in 22 (by decide +kernel) (by decide +kernel)
theorem mlX2_45 : Cond.methodLink RX2 45 yX2_load ∈ lw_t2 := lw_in 968 (by decide +kernel) (by decide +kernel)
theorem seX2_load : Cond.selects (mY MX2_load).cls yX2_load yX2_load ∈ lw_t2 := lw_in 21 (by decide +kernel) (by decide +kernel)
theorem flX2_57 : FLk RX2 57 5 0 := ⟨by decide, by decide, lw_in 131 (by decide +kernel) (by decide +kernel)⟩
theorem flX2_60 : FLk RX2 60 5 5 := ⟨by decide, by decide, lw_in 146 (by decide +kernel) (by decide +kernel)⟩
theorem mlX2_63 : Cond.methodLink RX2 63 yX2_loadProduct ∈ lw_t2 := lw_in 989 (by decide +kernel) (by decide +kernel)
theorem seX2_loadProduct : Cond.selects (mY MX2_loadProduct).cls yX2_loadProduct yX2_loadProduct ∈ lw_t2 := lw_in 25 (by decide +kernel) (by decide +kernel)
theorem mlX2_67 : Cond.methodLink RX2 67 yX2_markNoCorner ∈ lw_t2 := lw_in 993 (by decide +kernel) (by decide +kernel)
theorem seX2_markNoCorner : Cond.selects (mY MX2_markNoCorner).cls yX2_markNoCorner yX2_markNoCorner ∈ lw_t2 := lw_in 26 (by decide +kernel) (by decide +kernel)
theorem mmX2_71 : Cond.methodLink RX2 71 Lib.Math.max.name ∈ lw_t2 := lw_in 1061 (by decide +kernel) (by decide +kernel)
theorem mlX2_74 : Cond.methodLink RX2 74 yX2_isOf ∈ lw_t2 := lw_in 1062 (by decide +kernel) (by decide +kernel)
theorem seX2_isOf : Cond.selects (mY MX2_isOf).cls yX2_isOf yX2_isOf ∈ lw_t2 := lw_in 30 (by decide +kernel) (by decide +kernel)
theorem flX2_84 : FLk RX2 84 5 4 := ⟨by decide, by decide, lw_in 143 (by decide +kernel) (by decide +kernel)⟩
theorem mlX2_95 : Cond.methodLink RX2 95 yX5_clear ∈ lw_t2 := lw_in 1001 (by decide +kernel) (by decide +kernel)
theorem flX2_104 : FLk RX2 104 5 3 := ⟨by decide, by decide, lw_in 141 (by decide +kernel) (by decide +kernel)⟩
theorem mlX2_107 : Cond.methodLink RX2 107 yX5_append ∈ lw_t2 := lw_in 1002 (by decide +kernel) (by decide +kernel)
theorem moX4_1 : Cond.methodLink RX4 1 Lib.objectInit ∈ lw_t2 := lw_in 73 (by decide +kernel) (by decide +kernel)
theorem mmX4_7 : Cond.methodLink RX4 7 Lib.Math.max.name ∈ lw_t2 := lw_in 74 (by decide +kernel) (by decide +kernel)
theorem mlX5_85 : Cond.methodLink RX5 85 yX5_insert ∈ lw_t2 := lw_in 408 (by decide +kernel) (by decide +kernel)
theorem seX5_insert : Cond.selects (mY MX5_insert).cls yX5_insert yX5_insert ∈ lw_t2 := lw_in 3 (by decide +kernel) (by decide +kernel)
theorem flX6_24 : FLk RX6 24 5 2 := ⟨by decide, by decide, lw_in 138 (by decide +kernel) (by decide +kernel)⟩
theorem mlX6_62 : Cond.methodLink RX6 62 yX3_of ∈ lw_t2 := lw_in 100 (by decide +kernel) (by decide +kernel)
theorem flX5_64 : FLk RX5 64 5 1 := ⟨by decide, by decide, lw_in 137 (by decide +kernel) (by decide +kernel)⟩
theorem mlX5_92 : Cond.methodLink RX5 92 yX5_add ∈ lw_t2 := lw_in 400 (by decide +kernel) (by decide +kernel)
theorem seX5_add : Cond.selects (mY MX5_add).cls yX5_add yX5_add ∈ lw_t2 := lw_in 402 (by decide +kernel) (by decide +kernel)
theorem mlX5_89 : Cond.methodLink RX5 89 yX6_mono ∈ lw_t2 := lw_in 399 (by decide +kernel) (by decide +kernel)
theorem seX6_mono : Cond.selects (mY MX6_mono).cls yX6_mono yX6_mono ∈ lw_t2 := lw_in 98 (by decide +kernel) (by decide +kernel)
theorem mlX5_68 : Cond.methodLink RX5 68 yX3_exponent ∈ lw_t2 := lw_in 396 (by decide +kernel) (by decide +kernel)
theorem flX6_47 : FLk RX6 47 5 6 := ⟨by decide, by decide, lw_in 147 (by decide +kernel) (by decide +kernel)⟩
theorem mlX6_78 : Cond.methodLink RX6 78 yX3_degree ∈ lw_t2 := lw_in 104 (by decide +kernel) (by decide +kernel)
theorem mlX6_68 : Cond.methodLink RX6 68 yX6_mono ∈ lw_t2 := lw_in 96 (by decide +kernel) (by decide +kernel)
theorem flX6_36 : FLk RX6 36 5 5 := ⟨by decide, by decide, lw_in 145 (by decide +kernel) (by decide +kernel)⟩
theorem mlX6_88 : Cond.methodLink RX6 88 yX6_column ∈ lw_t2 := lw_in 122 (by decide +kernel) (by decide +kernel)
theorem mlX6_85 : Cond.methodLink RX6 85 yX3_times ∈ lw_t2 := lw_in 119 (by decide +kernel) (by decide +kernel)
theorem mlX6_82 : Cond.methodLink RX6 82 yX6_variable ∈ lw_t2 := lw_in 115 (by decide +kernel) (by decide +kernel)
theorem seX6_variable : Cond.selects (mY MX6_variable).cls yX6_variable yX6_variable ∈ lw_t2 := lw_in 117 (by decide +kernel) (by decide +kernel)
theorem mlX6_50 : Cond.methodLink RX6 50 yX6_listDegree ∈ lw_t2 := lw_in 92 (by decide +kernel) (by decide +kernel)
theorem seX6_listDegree : Cond.selects (mY MX6_listDegree).cls yX6_listDegree yX6_listDegree ∈ lw_t2 := lw_in 0 (by decide +kernel) (by decide +kernel)
theorem mlX6_53 : Cond.methodLink RX6 53 yX6_linkProducts ∈ lw_t2 := lw_in 107 (by decide +kernel) (by decide +kernel)
theorem seX6_linkProducts : Cond.selects (mY MX6_linkProducts).cls yX6_linkProducts yX6_linkProducts ∈ lw_t2 := lw_in 1 (by decide +kernel) (by decide +kernel)
theorem moX6_3 : Cond.methodLink RX6 3 Lib.objectInit ∈ lw_t2 := lw_in 67 (by decide +kernel) (by decide +kernel)
theorem clX6_15 : Cond.classLink RX6 15 RX4 ∈ lw_t2 := lw_in 68 (by decide +kernel) (by decide +kernel)
theorem is3 : Cond.instantiable (clC 3) (clN 3) ∈ lw_t2 := lw_in 69 (by decide +kernel) (by decide +kernel)
theorem ii3 : Cond.initialized (clC 3) ∈ lw_t2 := lw_in 34 (by decide +kernel) (by decide +kernel)
theorem flX6_20 : FLk RX6 20 5 1 := ⟨by decide, by decide, lw_in 133 (by decide +kernel) (by decide +kernel)⟩
theorem clX6_34 : Cond.classLink RX6 34 "[[I" ∈ lw_t2 := lw_in 82 (by decide +kernel) (by decide +kernel)
theorem mlX6_39 : Cond.methodLink RX6 39 yX6_weigh ∈ lw_t2 := lw_in 84 (by decide +kernel) (by decide +kernel)
theorem seX6_weigh : Cond.selects (mY MX6_weigh).cls yX6_weigh yX6_weigh ∈ lw_t2 := lw_in 86 (by decide +kernel) (by decide +kernel)
theorem mlX6_17 : Cond.methodLink RX6 17 yX4_init ∈ lw_t2 := lw_in 70 (by decide +kernel) (by decide +kernel)
theorem moX7_3 : Cond.methodLink RX7 3 Lib.objectInit ∈ lw_t2 := lw_in 204 (by decide +kernel) (by decide +kernel)
theorem flX7_9 : FLk RX7 9 6 0 := ⟨by decide, by decide, lw_in 207 (by decide +kernel) (by decide +kernel)⟩
theorem flX7_15 : FLk RX7 15 6 3 := ⟨by decide, by decide, lw_in 212 (by decide +kernel) (by decide +kernel)⟩
theorem clX7_19 : Cond.classLink RX7 19 RX5 ∈ lw_t2 := lw_in 205 (by decide +kernel) (by decide +kernel)
theorem flX7_24 : FLk RX7 24 6 4 := ⟨by decide, by decide, lw_in 213 (by decide +kernel) (by decide +kernel)⟩
theorem flX7_28 : FLk RX7 28 6 7 := ⟨by decide, by decide, lw_in 217 (by decide +kernel) (by decide +kernel)⟩
theorem mlX7_21 : Cond.methodLink RX7 21 yX5_init ∈ lw_t2 := lw_in 206 (by decide +kernel) (by decide +kernel)
theorem flX7_31 : FLk RX7 31 6 1 := ⟨by decide, by decide, lw_in 208 (by decide +kernel) (by decide +kernel)⟩
theorem flX7_34 : FLk RX7 34 6 2 := ⟨by decide, by decide, lw_in 210 (by decide +kernel) (by decide +kernel)⟩
theorem flX7_37 : FLk RX7 37 6 5 := ⟨by decide, by decide, lw_in 215 (by decide +kernel) (by decide +kernel)⟩
theorem flX7_117 : FLk RX7 117 5 0 := ⟨by decide, by decide, lw_in 132 (by decide +kernel) (by decide +kernel)⟩
theorem mlX7_100 : Cond.methodLink RX7 100 yX7_isVariable ∈ lw_t2 := lw_in 668 (by decide +kernel) (by decide +kernel)
theorem mlX7_96 : Cond.methodLink RX7 96 yX7_isDigit ∈ lw_t2 := lw_in 665 (by decide +kernel) (by decide +kernel)
theorem mlX7_43 : Cond.methodLink RX7 43 yX7_ahead ∈ lw_t2 := lw_in 650 (by decide +kernel) (by decide +kernel)
theorem seX7_ahead : Cond.selects (mY MX7_ahead).cls yX7_ahead yX7_ahead ∈ lw_t2 := lw_in 10 (by decide +kernel) (by decide +kernel)
theorem mlX7_51 : Cond.methodLink RX7 51 yX7_blame ∈ lw_t2 := lw_in 671 (by decide +kernel) (by decide +kernel)
theorem seX7_blame : Cond.selects (mY MX7_blame).cls yX7_blame yX7_blame ∈ lw_t2 := lw_in 13 (by decide +kernel) (by decide +kernel)
theorem mlX7_104 : Cond.methodLink RX7 104 yX7_readDigits ∈ lw_t2 := lw_in 679 (by decide +kernel) (by decide +kernel)
theorem seX7_readDigits : Cond.selects (mY MX7_readDigits).cls yX7_readDigits yX7_readDigits ∈ lw_t2 := lw_in 15 (by decide +kernel) (by decide +kernel)
theorem mlX7_114 : Cond.methodLink RX7 114 yX7_readPower ∈ lw_t2 := lw_in 688 (by decide +kernel) (by decide +kernel)
theorem seX7_readPower : Cond.selects (mY MX7_readPower).cls yX7_readPower yX7_readPower ∈ lw_t2 := lw_in 16 (by decide +kernel) (by decide +kernel)
theorem flX7_82 : FLk RX7 82 5 1 := ⟨by decide, by decide, lw_in 136 (by decide +kernel) (by decide +kernel)⟩
theorem flX7_59 : FLk RX7 59 6 6 := ⟨by decide, by decide, lw_in 216 (by decide +kernel) (by decide +kernel)⟩
theorem mlX7_110 : Cond.methodLink RX7 110 yX4_times ∈ lw_t2 := lw_in 687 (by decide +kernel) (by decide +kernel)
theorem mlX7_107 : Cond.methodLink RX7 107 yX4_reduced ∈ lw_t2 := lw_in 683 (by decide +kernel) (by decide +kernel)
theorem seX4_reduced : Cond.selects (mY MX4_reduced).cls yX4_reduced yX4_reduced ∈ lw_t2 := lw_in 685 (by decide +kernel) (by decide +kernel)
theorem mlX7_68 : Cond.methodLink RX7 68 yX7_factorIsAhead ∈ lw_t2 := lw_in 661 (by decide +kernel) (by decide +kernel)
theorem seX7_factorIsAhead : Cond.selects (mY MX7_factorIsAhead).cls yX7_factorIsAhead yX7_factorIsAhead ∈ lw_t2 := lw_in 12 (by decide +kernel) (by decide +kernel)
theorem mlX7_62 : Cond.methodLink RX7 62 yJ7_fill_53178 ∈ lw_t2 := lw_in 658 (by decide +kernel) (by decide +kernel)
theorem mlX7_72 : Cond.methodLink RX7 72 yX7_readFactor ∈ lw_t2 := lw_in 675 (by decide +kernel) (by decide +kernel)
theorem seX7_readFactor : Cond.selects (mY MX7_readFactor).cls yX7_readFactor yX7_readFactor ∈ lw_t2 := lw_in 14 (by decide +kernel) (by decide +kernel)
theorem mlX7_92 : Cond.methodLink RX7 92 yX5_add ∈ lw_t2 := lw_in 694 (by decide +kernel) (by decide +kernel)
theorem mlX7_86 : Cond.methodLink RX7 86 yX4_negative ∈ lw_t2 := lw_in 693 (by decide +kernel) (by decide +kernel)
theorem mlX7_76 : Cond.methodLink RX7 76 yX6_mono ∈ lw_t2 := lw_in 692 (by decide +kernel) (by decide +kernel)
theorem mlX7_40 : Cond.methodLink RX7 40 yX5_clear ∈ lw_t2 := lw_in 649 (by decide +kernel) (by decide +kernel)
theorem flX7_58 : FLk RX7 58 4 2 := ⟨by decide, by decide, lw_in 188 (by decide +kernel) (by decide +kernel)⟩
theorem mlX7_55 : Cond.methodLink RX7 55 yX5_dropZeros ∈ lw_t2 := lw_in 695 (by decide +kernel) (by decide +kernel)
theorem seX5_dropZeros : Cond.selects (mY MX5_dropZeros).cls yX5_dropZeros yX5_dropZeros ∈ lw_t2 := lw_in 697 (by decide +kernel) (by decide +kernel)
theorem mlX7_47 : Cond.methodLink RX7 47 yX7_readSummand ∈ lw_t2 := lw_in 654 (by decide +kernel) (by decide +kernel)
theorem seX7_readSummand : Cond.selects (mY MX7_readSummand).cls yX7_readSummand yX7_readSummand ∈ lw_t2 := lw_in 11 (by decide +kernel) (by decide +kernel)
theorem moX8_3 : Cond.methodLink RX8 3 Lib.objectInit ∈ lw_t2 := lw_in 240 (by decide +kernel) (by decide +kernel)
theorem flX8_9 : FLk RX8 9 7 0 := ⟨by decide, by decide, lw_in 241 (by decide +kernel) (by decide +kernel)⟩
theorem flX8_15 : FLk RX8 15 7 1 := ⟨by decide, by decide, lw_in 243 (by decide +kernel) (by decide +kernel)⟩
theorem mlX8_22 : Cond.methodLink RX8 22 yX8_put ∈ lw_t2 := lw_in 1014 (by decide +kernel) (by decide +kernel)
theorem seX8_put : Cond.selects (mY MX8_put).cls yX8_put yX8_put ∈ lw_t2 := lw_in 27 (by decide +kernel) (by decide +kernel)
theorem mlX8_35 : Cond.methodLink RX8 35 yX8_putNumber ∈ lw_t2 := lw_in 1019 (by decide +kernel) (by decide +kernel)
theorem seX8_putNumber : Cond.selects (mY MX8_putNumber).cls yX8_putNumber yX8_putNumber ∈ lw_t2 := lw_in 28 (by decide +kernel) (by decide +kernel)
theorem flX8_19 : FLk RX8 19 4 2 := ⟨by decide, by decide, lw_in 187 (by decide +kernel) (by decide +kernel)⟩
theorem flX8_26 : FLk RX8 26 4 0 := ⟨by decide, by decide, lw_in 177 (by decide +kernel) (by decide +kernel)⟩
theorem flX8_29 : FLk RX8 29 4 1 := ⟨by decide, by decide, lw_in 182 (by decide +kernel) (by decide +kernel)⟩
theorem cnX8_34 : Jvm.Cond.constant RX8 34 (Int32.ofInt (262143)) ∈ lw_t2 := lw_in 1018 (by decide +kernel) (by decide +kernel)
theorem mlX8_42 : Cond.methodLink RX8 42 yX8_putPower ∈ lw_t2 := lw_in 1024 (by decide +kernel) (by decide +kernel)
theorem seX8_putPower : Cond.selects (mY MX8_putPower).cls yX8_putPower yX8_putPower ∈ lw_t2 := lw_in 29 (by decide +kernel) (by decide +kernel)
theorem mlX8_38 : Cond.methodLink RX8 38 yX3_exponent ∈ lw_t2 := lw_in 1023 (by decide +kernel) (by decide +kernel)
theorem moX9_3 : Cond.methodLink RX9 3 Lib.objectInit ∈ lw_t2 := lw_in 59 (by decide +kernel) (by decide +kernel)
theorem clX9_9 : Cond.classLink RX9 9 RX6 ∈ lw_t2 := lw_in 62 (by decide +kernel) (by decide +kernel)
theorem is5 : Cond.instantiable (clC 5) (clN 5) ∈ lw_t2 := lw_in 63 (by decide +kernel) (by decide +kernel)
theorem ii5 : Cond.initialized (clC 5) ∈ lw_t2 := lw_in 33 (by decide +kernel) (by decide +kernel)
theorem flX9_12 : FLk RX9 12 8 0 := ⟨by decide, by decide, lw_in 333 (by decide +kernel) (by decide +kernel)⟩
theorem flX9_20 : FLk RX9 20 8 1 := ⟨by decide, by decide, lw_in 334 (by decide +kernel) (by decide +kernel)⟩
theorem clX9_24 : Cond.classLink RX9 24 RX7 ∈ lw_t2 := lw_in 199 (by decide +kernel) (by decide +kernel)
theorem is6 : Cond.instantiable (clC 6) (clN 6) ∈ lw_t2 := lw_in 200 (by decide +kernel) (by decide +kernel)
theorem ii6 : Cond.initialized (clC 6) ∈ lw_t2 := lw_in 38 (by decide +kernel) (by decide +kernel)
theorem flX9_27 : FLk RX9 27 8 2 := ⟨by decide, by decide, lw_in 335 (by decide +kernel) (by decide +kernel)⟩
theorem clX9_31 : Cond.classLink RX9 31 RX8 ∈ lw_t2 := lw_in 235 (by decide +kernel) (by decide +kernel)
theorem is7 : Cond.instantiable (clC 7) (clN 7) ∈ lw_t2 := lw_in 236 (by decide +kernel) (by decide +kernel)
theorem ii7 : Cond.initialized (clC 7) ∈ lw_t2 := lw_in 39 (by decide +kernel) (by decide +kernel)
theorem flX9_34 : FLk RX9 34 8 3 := ⟨by decide, by decide, lw_in 336 (by decide +kernel) (by decide +kernel)⟩
theorem clX9_38 : Cond.classLink RX9 38 RX0 ∈ lw_t2 := lw_in 250 (by decide +kernel) (by decide +kernel)
theorem is0 : Cond.instantiable (clC 0) (clN 0) ∈ lw_t2 := lw_in 251 (by decide +kernel) (by decide +kernel)
theorem ii0 : Cond.initialized (clC 0) ∈ lw_t2 := lw_in 40 (by decide +kernel) (by decide +kernel)
theorem flX9_41 : FLk RX9 41 8 4 := ⟨by decide, by decide, lw_in 337 (by decide +kernel) (by decide +kernel)⟩
theorem clX9_45 : Cond.classLink RX9 45 RX2 ∈ lw_t2 := lw_in 311 (by decide +kernel) (by decide +kernel)
theorem flX9_47 : FLk RX9 47 8 5 := ⟨by decide, by decide, lw_in 338 (by decide +kernel) (by decide +kernel)⟩
theorem mlX9_40 : Cond.methodLink RX9 40 yX0_init ∈ lw_t2 := lw_in 252 (by decide +kernel) (by decide +kernel)
theorem mnX9_33 : Cond.methodLinkNest RX9 33 yX8_init "StairsNear" ∈ lw_n := lw_nin 237 (by decide +kernel) (by decide +kernel)
theorem mnX9_26 : Cond.methodLinkNest RX9 26 yX7_init "StairsNear" ∈ lw_n := lw_nin 201 (by decide +kernel) (by decide +kernel)
theorem mlX9_16 : Cond.methodLink RX9 16 yX9_polys ∈ lw_t2 := lw_in 164 (by decide +kernel) (by decide +kernel)
theorem mlX9_11 : Cond.methodLink RX9 11 yX6_init ∈ lw_t2 := lw_in 64 (by decide +kernel) (by decide +kernel)
theorem flX9_52 : FLk RX9 52 8 6 := ⟨by decide, by decide, lw_in 339 (by decide +kernel) (by decide +kernel)⟩
theorem flX9_60 : FLk RX9 60 8 8 := ⟨by decide, by decide, lw_in 341 (by decide +kernel) (by decide +kernel)⟩
theorem flX9_64 : FLk RX9 64 8 9 := ⟨by decide, by decide, lw_in 342 (by decide +kernel) (by decide +kernel)⟩
theorem flX9_67 : FLk RX9 67 8 10 := ⟨by decide, by decide, lw_in 343 (by decide +kernel) (by decide +kernel)⟩
theorem is2 : Cond.instantiable (clC 2) (clN 2) ∈ lw_t2 := lw_in 313 (by decide +kernel) (by decide +kernel)
theorem ii2 : Cond.initialized (clC 2) ∈ lw_t2 := lw_in 42 (by decide +kernel) (by decide +kernel)
theorem mnX9_51 : Cond.methodLinkNest RX9 51 yX2_init "StairsNear" ∈ lw_n := lw_nin 314 (by decide +kernel) (by decide +kernel)
theorem flX9_198 : FLk RX9 198 0 0 := ⟨by decide, by decide, lw_in 281 (by decide +kernel) (by decide +kernel)⟩
theorem flX9_264 : FLk RX9 264 2 0 := ⟨by decide, by decide, lw_in 320 (by decide +kernel) (by decide +kernel)⟩
theorem flX9_74 : FLk RX9 74 5 0 := ⟨by decide, by decide, lw_in 130 (by decide +kernel) (by decide +kernel)⟩
theorem clX9_78 : Cond.classLink RX9 78 RX4 ∈ lw_t2 := lw_in 374 (by decide +kernel) (by decide +kernel)
theorem flX9_81 : FLk RX9 81 5 1 := ⟨by decide, by decide, lw_in 134 (by decide +kernel) (by decide +kernel)⟩
theorem mlX9_85 : Cond.methodLink RX9 85 yX6_weigh ∈ lw_t2 := lw_in 376 (by decide +kernel) (by decide +kernel)
theorem mlX9_80 : Cond.methodLink RX9 80 yX4_init ∈ lw_t2 := lw_in 375 (by decide +kernel) (by decide +kernel)
theorem mlX9_70 : Cond.methodLink RX9 70 yX9_isPrime ∈ lw_t2 := lw_in 371 (by decide +kernel) (by decide +kernel)
theorem mlX9_92 : Cond.methodLink RX9 92 yX9_forgetWhatWasWorkedOut ∈ lw_t2 := lw_in 381 (by decide +kernel) (by decide +kernel)
theorem seX9_forgetWhatWasWorkedOut : Cond.selects (mY MX9_forgetWhatWasWorkedOut).cls yX9_forgetWhatWasWorkedOut yX9_forgetWhatWasWorkedOut ∈ lw_t2 := lw_in 2 (by decide +kernel) (by decide +kernel)
theorem mlX9_89 : Cond.methodLink RX9 89 yX5_clear ∈ lw_t2 := lw_in 377 (by decide +kernel) (by decide +kernel)
theorem mlX9_95 : Cond.methodLink RX9 95 yX9_isWeight ∈ lw_t2 := lw_in 389 (by decide +kernel) (by decide +kernel)
theorem mlX9_98 : Cond.methodLink RX9 98 yX5_reorder ∈ lw_t2 := lw_in 392 (by decide +kernel) (by decide +kernel)
theorem seX5_reorder : Cond.selects (mY MX5_reorder).cls yX5_reorder yX5_reorder ∈ lw_t2 := lw_in 394 (by decide +kernel) (by decide +kernel)
theorem flX9_102 : FLk RX9 102 6 1 := ⟨by decide, by decide, lw_in 209 (by decide +kernel) (by decide +kernel)⟩
theorem mlX9_105 : Cond.methodLink RX9 105 yX7_take ∈ lw_t2 := lw_in 629 (by decide +kernel) (by decide +kernel)
theorem seX7_take : Cond.selects (mY MX7_take).cls yX7_take yX7_take ∈ lw_t2 := lw_in 631 (by decide +kernel) (by decide +kernel)
theorem flX9_142 : FLk RX9 142 4 2 := ⟨by decide, by decide, lw_in 191 (by decide +kernel) (by decide +kernel)⟩
theorem mlX9_114 : Cond.methodLink RX9 114 yX7_read ∈ lw_t2 := lw_in 645 (by decide +kernel) (by decide +kernel)
theorem seX7_read : Cond.selects (mY MX7_read).cls yX7_read yX7_read ∈ lw_t2 := lw_in 647 (by decide +kernel) (by decide +kernel)
theorem mlX9_111 : Cond.methodLink RX9 111 yX9_isSlot ∈ lw_t2 := lw_in 416 (by decide +kernel) (by decide +kernel)
theorem mlX9_108 : Cond.methodLink RX9 108 yX7_clearFault ∈ lw_t2 := lw_in 641 (by decide +kernel) (by decide +kernel)
theorem seX7_clearFault : Cond.selects (mY MX7_clearFault).cls yX7_clearFault yX7_clearFault ∈ lw_t2 := lw_in 643 (by decide +kernel) (by decide +kernel)
theorem flX9_117 : FLk RX9 117 6 2 := ⟨by decide, by decide, lw_in 211 (by decide +kernel) (by decide +kernel)⟩
theorem flX9_120 : FLk RX9 120 6 4 := ⟨by decide, by decide, lw_in 214 (by decide +kernel) (by decide +kernel)⟩
theorem mlX9_127 : Cond.methodLink RX9 127 yX9_putSpare ∈ lw_t2 := lw_in 545 (by decide +kernel) (by decide +kernel)
theorem seX9_putSpare : Cond.selects (mY MX9_putSpare).cls yX9_putSpare yX9_putSpare ∈ lw_t2 := lw_in 9 (by decide +kernel) (by decide +kernel)
theorem mlX9_123 : Cond.methodLink RX9 123 yX5_become ∈ lw_t2 := lw_in 544 (by decide +kernel) (by decide +kernel)
theorem flX9_137 : FLk RX9 137 7 1 := ⟨by decide, by decide, lw_in 244 (by decide +kernel) (by decide +kernel)⟩
theorem mlX9_134 : Cond.methodLink RX9 134 yX8_write ∈ lw_t2 := lw_in 1010 (by decide +kernel) (by decide +kernel)
theorem seX8_write : Cond.selects (mY MX8_write).cls yX8_write yX8_write ∈ lw_t2 := lw_in 1012 (by decide +kernel) (by decide +kernel)
theorem flX9_138 : FLk RX9 138 7 0 := ⟨by decide, by decide, lw_in 242 (by decide +kernel) (by decide +kernel)⟩
theorem mlX9_275 : Cond.methodLink RX9 275 yX3_exponent ∈ lw_t2 := lw_in 423 (by decide +kernel) (by decide +kernel)
theorem mlX9_272 : Cond.methodLink RX9 272 yX3_degree ∈ lw_t2 := lw_in 422 (by decide +kernel) (by decide +kernel)
theorem flX9_146 : FLk RX9 146 4 0 := ⟨by decide, by decide, lw_in 180 (by decide +kernel) (by decide +kernel)⟩
theorem mlX9_149 : Cond.methodLink RX9 149 yX9_tellMono ∈ lw_t2 := lw_in 419 (by decide +kernel) (by decide +kernel)
theorem flX9_143 : FLk RX9 143 4 1 := ⟨by decide, by decide, lw_in 185 (by decide +kernel) (by decide +kernel)⟩
theorem mlX9_153 : Cond.methodLink RX9 153 yX5_low ∈ lw_t2 := lw_in 428 (by decide +kernel) (by decide +kernel)
theorem mlX9_157 : Cond.methodLink RX9 157 yX5_high ∈ lw_t2 := lw_in 433 (by decide +kernel) (by decide +kernel)
theorem mlX9_160 : Cond.methodLink RX9 160 yX5_ecart ∈ lw_t2 := lw_in 437 (by decide +kernel) (by decide +kernel)
theorem mlX9_166 : Cond.methodLink RX9 166 yX5_mix ∈ lw_t2 := lw_in 933 (by decide +kernel) (by decide +kernel)
theorem mlX9_173 : Cond.methodLink RX9 173 yX9_multiply ∈ lw_t2 := lw_in 935 (by decide +kernel) (by decide +kernel)
theorem seX9_multiply : Cond.selects (mY MX9_multiply).cls yX9_multiply yX9_multiply ∈ lw_t2 := lw_in 17 (by decide +kernel) (by decide +kernel)
theorem cnX9_165 : Jvm.Cond.constant RX9 165 (Int32.ofInt (262143)) ∈ lw_t2 := lw_in 932 (by decide +kernel) (by decide +kernel)
theorem mlX9_170 : Cond.methodLink RX9 170 yX4_negative ∈ lw_t2 := lw_in 934 (by decide +kernel) (by decide +kernel)
theorem mlX9_190 : Cond.methodLink RX9 190 yX0_divide ∈ lw_t2 := lw_in 454 (by decide +kernel) (by decide +kernel)
theorem seX0_divide : Cond.selects (mY MX0_divide).cls yX0_divide yX0_divide ∈ lw_t2 := lw_in 456 (by decide +kernel) (by decide +kernel)
theorem mlX9_187 : Cond.methodLink RX9 187 yX9_held ∈ lw_t2 := lw_in 450 (by decide +kernel) (by decide +kernel)
theorem seX9_held : Cond.selects (mY MX9_held).cls yX9_held yX9_held ∈ lw_t2 := lw_in 4 (by decide +kernel) (by decide +kernel)
theorem mlX9_184 : Cond.methodLink RX9 184 yX9_isSet ∈ lw_t2 := lw_in 447 (by decide +kernel) (by decide +kernel)
theorem mlX9_194 : Cond.methodLink RX9 194 yX0_keptOne ∈ lw_t2 := lw_in 540 (by decide +kernel) (by decide +kernel)
theorem seX0_keptOne : Cond.selects (mY MX0_keptOne).cls yX0_keptOne yX0_keptOne ∈ lw_t2 := lw_in 542 (by decide +kernel) (by decide +kernel)
theorem mlX9_205 : Cond.methodLink RX9 205 yX0_tellStep ∈ lw_t2 := lw_in 557 (by decide +kernel) (by decide +kernel)
theorem seX0_tellStep : Cond.selects (mY MX0_tellStep).cls yX0_tellStep yX0_tellStep ∈ lw_t2 := lw_in 559 (by decide +kernel) (by decide +kernel)
theorem mlX9_202 : Cond.methodLink RX9 202 yX0_tellWhole ∈ lw_t2 := lw_in 553 (by decide +kernel) (by decide +kernel)
theorem seX0_tellWhole : Cond.selects (mY MX0_tellWhole).cls yX0_tellWhole yX0_tellWhole ∈ lw_t2 := lw_in 555 (by decide +kernel) (by decide +kernel)
theorem mlX9_250 : Cond.methodLink RX9 250 yX6_bound ∈ lw_t2 := lw_in 565 (by decide +kernel) (by decide +kernel)
theorem flX9_265 : FLk RX9 265 8 7 := ⟨by decide, by decide, lw_in 340 (by decide +kernel) (by decide +kernel)⟩
theorem mlX9_240 : Cond.methodLink RX9 240 yX2_build ∈ lw_t2 := lw_in 961 (by decide +kernel) (by decide +kernel)
theorem seX2_build : Cond.selects (mY MX2_build).cls yX2_build yX2_build ∈ lw_t2 := lw_in 963 (by decide +kernel) (by decide +kernel)
theorem mlX9_236 : Cond.methodLink RX9 236 yX9_oldestIdeal ∈ lw_t2 := lw_in 957 (by decide +kernel) (by decide +kernel)
theorem seX9_oldestIdeal : Cond.selects (mY MX9_oldestIdeal).cls yX9_oldestIdeal yX9_oldestIdeal ∈ lw_t2 := lw_in 20 (by decide +kernel) (by decide +kernel)
theorem flX9_215 : FLk RX9 215 5 4 := ⟨by decide, by decide, lw_in 144 (by decide +kernel) (by decide +kernel)⟩
theorem mlX9_208 : Cond.methodLink RX9 208 yX9_isBound ∈ lw_t2 := lw_in 949 (by decide +kernel) (by decide +kernel)
theorem seX9_isBound : Cond.selects (mY MX9_isBound).cls yX9_isBound yX9_isBound ∈ lw_t2 := lw_in 18 (by decide +kernel) (by decide +kernel)
theorem mlX9_218 : Cond.methodLink RX9 218 yX2_count ∈ lw_t2 := lw_in 1057 (by decide +kernel) (by decide +kernel)
theorem seX2_count : Cond.selects (mY MX2_count).cls yX2_count yX2_count ∈ lw_t2 := lw_in 1059 (by decide +kernel) (by decide +kernel)
theorem mlX9_211 : Cond.methodLink RX9 211 yX9_idealOf ∈ lw_t2 := lw_in 953 (by decide +kernel) (by decide +kernel)
theorem seX9_idealOf : Cond.selects (mY MX9_idealOf).cls yX9_idealOf yX9_idealOf ∈ lw_t2 := lw_in 19 (by decide +kernel) (by decide +kernel)
theorem mlX9_226 : Cond.methodLink RX9 226 yX2_leaveOver ∈ lw_t2 := lw_in 997 (by decide +kernel) (by decide +kernel)
theorem seX2_leaveOver : Cond.selects (mY MX2_leaveOver).cls yX2_leaveOver yX2_leaveOver ∈ lw_t2 := lw_in 999 (by decide +kernel) (by decide +kernel)
theorem flX9_244 : FLk RX9 244 3 0 := ⟨by decide, by decide, lw_in 78 (by decide +kernel) (by decide +kernel)⟩
theorem flX9_247 : FLk RX9 247 5 2 := ⟨by decide, by decide, lw_in 139 (by decide +kernel) (by decide +kernel)⟩
theorem flX9_253 : FLk RX9 253 0 1 := ⟨by decide, by decide, lw_in 283 (by decide +kernel) (by decide +kernel)⟩
theorem flX9_256 : FLk RX9 256 0 2 := ⟨by decide, by decide, lw_in 285 (by decide +kernel) (by decide +kernel)⟩
theorem moJ5_3 : Cond.methodLink RJ5 3 Lib.objectInit ∈ lw_t2 := lw_in 710 (by decide +kernel) (by decide +kernel)
theorem fsJ5_18 : Cond.fieldLink RJ5 18 "java/lang/String" "COMPACT_STRINGS" "Z" ∈ lw_t2 := lw_in 711 (by decide +kernel) (by decide +kernel)
theorem acbyte : Cond.arrayClass (newarray.typeOf .byte) ∈ lw_t2 := lw_in 732 (by decide +kernel) (by decide +kernel)
theorem flJ5_15 : FLk RJ5 15 10 0 := ⟨by decide, by decide, lw_in 719 (by decide +kernel) (by decide +kernel)⟩
theorem flJ5_22 : FLk RJ5 22 10 1 := ⟨by decide, by decide, lw_in 720 (by decide +kernel) (by decide +kernel)⟩
theorem flJ5_79 : FLk RJ5 79 10 3 := ⟨by decide, by decide, lw_in 722 (by decide +kernel) (by decide +kernel)⟩
theorem mmJ8_194 : Cond.methodLink RJ8 194 Lib.Math.max.name ∈ lw_t2 := lw_in 758 (by decide +kernel) (by decide +kernel)
theorem cnJ8_200 : Jvm.Cond.constant RJ8 200 (Int32.ofInt (2147483639)) ∈ lw_t2 := lw_in 759 (by decide +kernel) (by decide +kernel)
theorem cnJ5_39 : Jvm.Cond.constant RJ5 39 (Int32.ofInt (2147483647)) ∈ lw_t2 := lw_in 763 (by decide +kernel) (by decide +kernel)
theorem mlJ5_114 : Cond.methodLink RJ5 114 yJ8_newLength_cabcc ∈ lw_t2 := lw_in 755 (by decide +kernel) (by decide +kernel)
theorem mmJ7_304 : Cond.methodLink RJ7 304 Lib.Math.min.name ∈ lw_t2 := lw_in 774 (by decide +kernel) (by decide +kernel)
theorem maJ7_150 : Cond.methodLink RJ7 150 arraycopyName ∈ lw_t2 := lw_in 775 (by decide +kernel) (by decide +kernel)
theorem mcJ7_310 : Cond.methodLink RJ7 310 ⟨"[B", "clone", "()Ljava/lang/Object;"⟩ ∈ lw_t2 := lw_in 767 (by decide +kernel) (by decide +kernel)
theorem mclo : Cond.sameMethod "[B" "java/lang/Object" "clone" "()Ljava/lang/Object;" ∈ lw_t2 ∧ Cond.native ⟨"java/lang/Object", "clone", "()Ljava/lang/Object;"⟩ ∈ lw_t2 ∧ Cond.instanceMethod ⟨"java/lang/Object", "clone", "()Ljava/lang/Object;"⟩ ∈ lw_t2 ∧ Cond.selects "[B" ⟨"[B", "clone", "()Ljava/lang/Object;"⟩ ⟨"java/lang/Object", "clone", "()Ljava/lang/Object;"⟩ ∈ lw_t2 ∧ Cond.arrayClass .byte ∈ lw_t2 := ⟨lw_in 768 (by decide +kernel) (by decide +kernel), lw_in 769 (by decide +kernel) (by decide +kernel), lw_in 770 (by decide +kernel) (by decide +kernel), lw_in 771 (by decide +kernel) (by decide +kernel), acbyte⟩
theorem clJ7_311 : Cond.classLink RJ7 311 "[B" ∈ lw_t2 := lw_in 773 (by decide +kernel) (by decide +kernel)
theorem suJ5_newCapacity_0f7a4 : Cond.selects RJ4 yJ5_newCapacity_0f7a4 yJ5_newCapacity_0f7a4 ∈ lw_t2 ∧ Cond.sameMethod (mY MJ5_newCapacity_0f7a4).cls RJ5 (mY MJ5_newCapacity_0f7a4).name (mY MJ5_newCapacity_0f7a4).desc ∈ lw_t2 := ⟨lw_ex (by decide +kernel), lw_in 1069 (by decide +kernel) (by decide +kernel)⟩
theorem mlJ5_108 : Cond.methodLink RJ5 108 yJ7_copyOf_9075b ∈ lw_t2 := lw_in 764 (by decide +kernel) (by decide +kernel)
theorem mlJ5_104 : Cond.methodLink RJ5 104 yJ5_newCapacity_0f7a4 ∈ lw_t2 := lw_in 751 (by decide +kernel) (by decide +kernel)
theorem fsJ0_38 : Cond.fieldLink RJ0 38 "java/lang/String" "COMPACT_STRINGS" "Z" ∈ lw_t2 := lw_in 585 (by decide +kernel) (by decide +kernel)
theorem flJ0_15 : FLk RJ0 15 9 1 := ⟨by decide, by decide, lw_in 906 (by decide +kernel) (by decide +kernel)⟩
theorem fkJ0_15 : Cond.fieldLink RJ0 15 "java/lang/String" "coder" "B" ∈ lw_t2 := lw_in 906 (by decide +kernel) (by decide +kernel)
theorem mlJ5_40 : Cond.methodLink RJ5 40 yJ0_coder_7d493 ∈ lw_t2 := lw_in 805 (by decide +kernel) (by decide +kernel)
theorem seJ0_coder_7d493 : Cond.selects (mY MJ0_coder_7d493).cls yJ0_coder_7d493 yJ0_coder_7d493 ∈ lw_t2 := lw_in 583 (by decide +kernel) (by decide +kernel)
theorem fkJ0_9 : Cond.fieldLink RJ0 9 "java/lang/String" "value" "[B" ∈ lw_t2 := lw_in 905 (by decide +kernel) (by decide +kernel)
theorem maJ0_212 : Cond.methodLink RJ0 212 arraycopyName ∈ lw_t2 := lw_in 829 (by decide +kernel) (by decide +kernel)
theorem mlJ0_335 : Cond.methodLink RJ0 335 yJ0_coder_7d493 ∈ lw_t2 := lw_in 581 (by decide +kernel) (by decide +kernel)
theorem suJ5_inflateIfNeededFor_a7421 : Cond.selects RJ4 yJ5_inflateIfNeededFor_a7421 yJ5_inflateIfNeededFor_a7421 ∈ lw_t2 ∧ Cond.sameMethod (mY MJ5_inflateIfNeededFor_a7421).cls RJ5 (mY MJ5_inflateIfNeededFor_a7421).name (mY MJ5_inflateIfNeededFor_a7421).desc ∈ lw_t2 := ⟨lw_ex (by decide +kernel), lw_in 1071 (by decide +kernel) (by decide +kernel)⟩
theorem mlJ5_399 : Cond.methodLink RJ5 399 yJ0_getBytes_840e7 ∈ lw_t2 := lw_in 825 (by decide +kernel) (by decide +kernel)
theorem seJ0_getBytes_840e7 : Cond.selects (mY MJ0_getBytes_840e7).cls yJ0_getBytes_840e7 yJ0_getBytes_840e7 ∈ lw_t2 := lw_in 827 (by decide +kernel) (by decide +kernel)
theorem mlJ5_397 : Cond.methodLink RJ5 397 yJ5_inflateIfNeededFor_a7421 ∈ lw_t2 := lw_in 801 (by decide +kernel) (by decide +kernel)
theorem flJ0_9 : FLk RJ0 9 9 0 := ⟨by decide, by decide, lw_in 905 (by decide +kernel) (by decide +kernel)⟩
theorem suJ5_ensureCapacityInternal_d00df : Cond.selects RJ4 yJ5_ensureCapacityInternal_d00df yJ5_ensureCapacityInternal_d00df ∈ lw_t2 ∧ Cond.sameMethod (mY MJ5_ensureCapacityInternal_d00df).cls RJ5 (mY MJ5_ensureCapacityInternal_d00df).name (mY MJ5_ensureCapacityInternal_d00df).desc ∈ lw_t2 := ⟨lw_ex (by decide +kernel), lw_in 1068 (by decide +kernel) (by decide +kernel)⟩
theorem suJ5_putStringAt_47b60 : Cond.selects RJ4 yJ5_putStringAt_47b60 yJ5_putStringAt_47b60 ∈ lw_t2 ∧ Cond.sameMethod (mY MJ5_putStringAt_47b60).cls RJ5 (mY MJ5_putStringAt_47b60).name (mY MJ5_putStringAt_47b60).desc ∈ lw_t2 := ⟨lw_ex (by decide +kernel), lw_in 1070 (by decide +kernel) (by decide +kernel)⟩
theorem mlJ5_208 : Cond.methodLink RJ5 208 yJ5_putStringAt_47b60 ∈ lw_t2 := lw_in 797 (by decide +kernel) (by decide +kernel)
theorem mlJ5_100 : Cond.methodLink RJ5 100 yJ5_ensureCapacityInternal_d00df ∈ lw_t2 := lw_in 747 (by decide +kernel) (by decide +kernel)
theorem mlJ5_32 : Cond.methodLink RJ5 32 yJ0_length_8abf5 ∈ lw_t2 := lw_in 796 (by decide +kernel) (by decide +kernel)
theorem seJ0_length_8abf5 : Cond.selects (mY MJ0_length_8abf5).cls yJ0_length_8abf5 yJ0_length_8abf5 ∈ lw_t2 := lw_in 579 (by decide +kernel) (by decide +kernel)
theorem suJ5_isLatin1_aae02 : Cond.selects RJ4 yJ5_isLatin1_aae02 yJ5_isLatin1_aae02 ∈ lw_t2 ∧ Cond.sameMethod (mY MJ5_isLatin1_aae02).cls RJ5 (mY MJ5_isLatin1_aae02).name (mY MJ5_isLatin1_aae02).desc ∈ lw_t2 := ⟨lw_in 779 (by decide +kernel) (by decide +kernel), lw_in 778 (by decide +kernel) (by decide +kernel)⟩
theorem mlJ5_83 : Cond.methodLink RJ5 83 yJ5_isLatin1_aae02 ∈ lw_t2 := lw_in 776 (by decide +kernel) (by decide +kernel)
theorem mlJ5_191 : Cond.methodLink RJ5 191 yJ1_canEncode_fc78d ∈ lw_t2 := lw_in 1039 (by decide +kernel) (by decide +kernel)
theorem fsJ6_83 : Cond.fieldLink RJ6 83 "java/lang/Integer" "DigitOnes" "[B" ∈ lw_t2 := lw_in 844 (by decide +kernel) (by decide +kernel)
theorem mlJ5_248 : Cond.methodLink RJ5 248 yJ6_getChars_ba4f3 ∈ lw_t2 := lw_in 841 (by decide +kernel) (by decide +kernel)
theorem mlJ5_245 : Cond.methodLink RJ5 245 yJ6_stringSize_0f7a4 ∈ lw_t2 := lw_in 838 (by decide +kernel) (by decide +kernel)
theorem cnJ6_265 : Jvm.Cond.constant RJ6 265 (Int32.ofInt (1431655765)) ∈ lw_t2 := lw_in 922 (by decide +kernel) (by decide +kernel)
theorem cnJ6_266 : Jvm.Cond.constant RJ6 266 (Int32.ofInt (858993459)) ∈ lw_t2 := lw_in 923 (by decide +kernel) (by decide +kernel)
theorem cnJ6_267 : Jvm.Cond.constant RJ6 267 (Int32.ofInt (252645135)) ∈ lw_t2 := lw_in 924 (by decide +kernel) (by decide +kernel)
theorem ssJ5_length_8abf5 : Cond.superclass RJ4 (mY MJ5_length_8abf5).cls ∈ lw_t2 ∧ Cond.sameMethod (mY MJ5_length_8abf5).cls (mY MJ5_length_8abf5).cls (mY MJ5_length_8abf5).name (mY MJ5_length_8abf5).desc ∈ lw_t2 := ⟨lw_in 731 (by decide +kernel) (by decide +kernel), lw_in 879 (by decide +kernel) (by decide +kernel)⟩
theorem mlJ4_343 : Cond.methodLink RJ4 343 yJ5_length_8abf5 ∈ lw_t2 := lw_in 883 (by decide +kernel) (by decide +kernel)
theorem mlJ7_343 : Cond.methodLink RJ7 343 yJ7_checkLength_df160 ∈ lw_t2 := lw_in 892 (by decide +kernel) (by decide +kernel)
theorem mlJ7_339 : Cond.methodLink RJ7 339 yJ7_copyOfRangeByte_39247 ∈ lw_t2 := lw_in 889 (by decide +kernel) (by decide +kernel)
theorem moJ0_1 : Cond.methodLink RJ0 1 Lib.objectInit ∈ lw_t2 := lw_in 871 (by decide +kernel) (by decide +kernel)
theorem suJ5_getValue_6d5f1 : Cond.selects RJ4 yJ5_getValue_6d5f1 yJ5_getValue_6d5f1 ∈ lw_t2 ∧ Cond.sameMethod (mY MJ5_getValue_6d5f1).cls RJ5 (mY MJ5_getValue_6d5f1).name (mY MJ5_getValue_6d5f1).desc ∈ lw_t2 := ⟨lw_in 875 (by decide +kernel) (by decide +kernel), lw_in 874 (by decide +kernel) (by decide +kernel)⟩
theorem vole : Cond.methodLink RJ0 549 yJ5_length_8abf5 ∈ lw_t2 ∧ Cond.instanceMethod yJ4_length_8abf5 ∈ lw_t2 ∧ Cond.selects RJ4 yJ5_length_8abf5 yJ4_length_8abf5 ∈ lw_t2 ∧ Cond.sameMethod yJ5_length_8abf5.cls RJ5 yJ5_length_8abf5.name yJ5_length_8abf5.desc ∈ lw_t2 ∧ Cond.instanceMethod yJ5_length_8abf5 ∈ lw_t2 ∧ Cond.code yJ5_length_8abf5 cJ5_length_8abf5 1 (some .int) ∈ lw_t2 := ⟨lw_in 877 (by decide +kernel) (by decide +kernel), lw_in 881 (by decide +kernel) (by decide +kernel), lw_in 880 (by decide +kernel) (by decide +kernel), lw_in 879 (by decide +kernel) (by decide +kernel), lw_in 878 (by decide +kernel) (by decide +kernel), lw_in 884 (by decide +kernel) (by decide +kernel)⟩
theorem flJ0_1048 : FLk RJ0 1048 10 2 := ⟨by decide, by decide, lw_in 721 (by decide +kernel) (by decide +kernel)⟩
theorem mlJ0_54 : Cond.methodLink RJ0 54 yJ7_copyOfRange_39247 ∈ lw_t2 := lw_in 886 (by decide +kernel) (by decide +kernel)
theorem mlJ0_1047 : Cond.methodLink RJ0 1047 yJ5_isLatin1_aae02 ∈ lw_t2 := lw_in 885 (by decide +kernel) (by decide +kernel)
theorem mlJ0_552 : Cond.methodLink RJ0 552 yJ5_getValue_6d5f1 ∈ lw_t2 := lw_in 872 (by decide +kernel) (by decide +kernel)
theorem mlJ0_489 : Cond.methodLink RJ0 489 yJ0_init_db425 ∈ lw_t2 := lw_in 868 (by decide +kernel) (by decide +kernel)
theorem fsJ0_1053 : Cond.fieldLink RJ0 1053 "jdk/internal/util/Preconditions" "SIOOBE_FORMATTER" "Ljava/util/function/BiFunction;" ∈ lw_t2 := lw_in 601 (by decide +kernel) (by decide +kernel)
theorem mlJ0_1059 : Cond.methodLink RJ0 1059 yJ3_checkIndex_8e157 ∈ lw_t2 := lw_in 603 (by decide +kernel) (by decide +kernel)
theorem mlJ1_9 : Cond.methodLink RJ1 9 yJ0_checkIndex_df160 ∈ lw_t2 := lw_in 598 (by decide +kernel) (by decide +kernel)
theorem mlJ0_495 : Cond.methodLink RJ0 495 yJ1_charAt_3b067 ∈ lw_t2 := lw_in 595 (by decide +kernel) (by decide +kernel)
theorem mlJ0_492 : Cond.methodLink RJ0 492 yJ0_isLatin1_aae02 ∈ lw_t2 := lw_in 591 (by decide +kernel) (by decide +kernel)
theorem seJ0_isLatin1_aae02 : Cond.selects (mY MJ0_isLatin1_aae02).cls yJ0_isLatin1_aae02 yJ0_isLatin1_aae02 ∈ lw_t2 := lw_in 593 (by decide +kernel) (by decide +kernel)
theorem clJ0_10 : Cond.classLink RJ0 10 RJ0 ∈ lw_t2 := lw_in 1049 (by decide +kernel) (by decide +kernel)
theorem mlJ0_541 : Cond.methodLink RJ0 541 yJ1_equals_b5fdf ∈ lw_t2 := lw_in 1050 (by decide +kernel) (by decide +kernel)
theorem mlJ4_1 : Cond.methodLink RJ4 1 yJ5_init_d00df ∈ lw_t2 := lw_in 707 (by decide +kernel) (by decide +kernel)
theorem ssJ5_append_cf1ce : Cond.superclass RJ4 (mY MJ5_append_cf1ce).cls ∈ lw_t2 ∧ Cond.sameMethod (mY MJ5_append_cf1ce).cls (mY MJ5_append_cf1ce).cls (mY MJ5_append_cf1ce).name (mY MJ5_append_cf1ce).desc ∈ lw_t2 := ⟨lw_in 731 (by decide +kernel) (by decide +kernel), lw_in 1066 (by decide +kernel) (by decide +kernel)⟩
theorem mlJ4_29 : Cond.methodLink RJ4 29 yJ5_append_cf1ce ∈ lw_t2 := lw_in 740 (by decide +kernel) (by decide +kernel)
theorem ssJ5_append_3fe6f : Cond.superclass RJ4 (mY MJ5_append_3fe6f).cls ∈ lw_t2 ∧ Cond.sameMethod (mY MJ5_append_3fe6f).cls (mY MJ5_append_3fe6f).cls (mY MJ5_append_3fe6f).name (mY MJ5_append_3fe6f).desc ∈ lw_t2 := ⟨lw_in 731 (by decide +kernel) (by decide +kernel), lw_in 1074 (by decide +kernel) (by decide +kernel)⟩
theorem mlJ4_50 : Cond.methodLink RJ4 50 yJ5_append_3fe6f ∈ lw_t2 := lw_in 1036 (by decide +kernel) (by decide +kernel)
theorem ssJ5_append_c97b9 : Cond.superclass RJ4 (mY MJ5_append_c97b9).cls ∈ lw_t2 ∧ Cond.sameMethod (mY MJ5_append_c97b9).cls (mY MJ5_append_c97b9).cls (mY MJ5_append_c97b9).name (mY MJ5_append_c97b9).desc ∈ lw_t2 := ⟨lw_in 731 (by decide +kernel) (by decide +kernel), lw_in 1073 (by decide +kernel) (by decide +kernel)⟩
theorem mlJ4_53 : Cond.methodLink RJ4 53 yJ5_append_c97b9 ∈ lw_t2 := lw_in 835 (by decide +kernel) (by decide +kernel)
theorem clJ4_18 : Cond.classLink RJ4 18 RJ0 ∈ lw_t2 := lw_in 863 (by decide +kernel) (by decide +kernel)
theorem is9 : Cond.instantiable (clC 9) (clN 9) ∈ lw_t2 := lw_in 864 (by decide +kernel) (by decide +kernel)
theorem ii9 : Cond.initialized (clC 9) ∈ lw_t2 := lw_in 46 (by decide +kernel) (by decide +kernel)
theorem mlJ4_137 : Cond.methodLink RJ4 137 yJ0_init_81219 ∈ lw_t2 := lw_in 865 (by decide +kernel) (by decide +kernel)
theorem cnL_7 : Jvm.Cond.constant RL 7 (Int32.ofInt (1183187329)) ∈ lw_t2 := lw_in 569 (by decide +kernel) (by decide +kernel)
theorem cnL_8 : Jvm.Cond.constant RL 8 (Int32.ofInt (2147483647)) ∈ lw_t2 := lw_in 573 (by decide +kernel) (by decide +kernel)
theorem mlL_29 : Cond.methodLink RL 29 yX9_poly ∈ lw_t2 := lw_in 637 (by decide +kernel) (by decide +kernel)
theorem seX9_poly : Cond.selects (mY MX9_poly).cls yX9_poly yX9_poly ∈ lw_t2 := lw_in 639 (by decide +kernel) (by decide +kernel)
theorem mlL_25 : Cond.methodLink RL 25 yX9_end ∈ lw_t2 := lw_in 633 (by decide +kernel) (by decide +kernel)
theorem seX9_end : Cond.selects (mY MX9_end).cls yX9_end yX9_end ∈ lw_t2 := lw_in 635 (by decide +kernel) (by decide +kernel)
theorem mlL_9 : Cond.methodLink RL 9 yJ0_length_8abf5 ∈ lw_t2 := lw_in 577 (by decide +kernel) (by decide +kernel)
theorem mlL_19 : Cond.methodLink RL 19 yX9_feed ∈ lw_t2 := lw_in 625 (by decide +kernel) (by decide +kernel)
theorem seX9_feed : Cond.selects (mY MX9_feed).cls yX9_feed yX9_feed ∈ lw_t2 := lw_in 627 (by decide +kernel) (by decide +kernel)
theorem mlL_15 : Cond.methodLink RL 15 yJ0_charAt_5068e ∈ lw_t2 := lw_in 587 (by decide +kernel) (by decide +kernel)
theorem seJ0_charAt_5068e : Cond.selects (mY MJ0_charAt_5068e).cls yJ0_charAt_5068e yJ0_charAt_5068e ∈ lw_t2 := lw_in 589 (by decide +kernel) (by decide +kernel)
theorem clL_36 : Cond.classLink RL 36 RJ4 ∈ lw_t2 := lw_in 702 (by decide +kernel) (by decide +kernel)
theorem is10 : Cond.instantiable (clC 10) (clN 10) ∈ lw_t2 := lw_in 703 (by decide +kernel) (by decide +kernel)
theorem ii10 : Cond.initialized (clC 10) ∈ lw_t2 := lw_in 45 (by decide +kernel) (by decide +kernel)
theorem mlL_38 : Cond.methodLink RL 38 yJ4_init_da8c8 ∈ lw_t2 := lw_in 704 (by decide +kernel) (by decide +kernel)
theorem mlL_33 : Cond.methodLink RL 33 yX9_show ∈ lw_t2 := lw_in 1006 (by decide +kernel) (by decide +kernel)
theorem seX9_show : Cond.selects (mY MX9_show).cls yX9_show yX9_show ∈ lw_t2 := lw_in 1008 (by decide +kernel) (by decide +kernel)
theorem mlL_46 : Cond.methodLink RL 46 yJ4_toString_0e30d ∈ lw_t2 := lw_in 859 (by decide +kernel) (by decide +kernel)
theorem seJ4_toString_0e30d : Cond.selects (mY MJ4_toString_0e30d).cls yJ4_toString_0e30d yJ4_toString_0e30d ∈ lw_t2 := lw_in 861 (by decide +kernel) (by decide +kernel)
theorem mlL_42 : Cond.methodLink RL 42 yJ4_append_cf468 ∈ lw_t2 := lw_in 1032 (by decide +kernel) (by decide +kernel)
theorem seJ4_append_cf468 : Cond.selects (mY MJ4_append_cf468).cls yJ4_append_cf468 yJ4_append_cf468 ∈ lw_t2 := lw_in 1034 (by decide +kernel) (by decide +kernel)
theorem mlL_39 : Cond.methodLink RL 39 yX9_out ∈ lw_t2 := lw_in 1028 (by decide +kernel) (by decide +kernel)
theorem seX9_out : Cond.selects (mY MX9_out).cls yX9_out yX9_out ∈ lw_t2 := lw_in 1030 (by decide +kernel) (by decide +kernel)
theorem mlL_50 : Cond.methodLink RL 50 yL_between ∈ lw_t2 := lw_in 570 (by decide +kernel) (by decide +kernel)
theorem mlL_65 : Cond.methodLink RL 65 yJ4_append_bf812 ∈ lw_t2 := lw_in 831 (by decide +kernel) (by decide +kernel)
theorem seJ4_append_bf812 : Cond.selects (mY MJ4_append_bf812).cls yJ4_append_bf812 yJ4_append_bf812 ∈ lw_t2 := lw_in 833 (by decide +kernel) (by decide +kernel)
theorem mlL_62 : Cond.methodLink RL 62 yJ4_append_15ec4 ∈ lw_t2 := lw_in 736 (by decide +kernel) (by decide +kernel)
theorem seJ4_append_15ec4 : Cond.selects (mY MJ4_append_15ec4).cls yJ4_append_15ec4 yJ4_append_15ec4 ∈ lw_t2 := lw_in 738 (by decide +kernel) (by decide +kernel)
theorem mlL_83 : Cond.methodLink RL 83 yX9_step ∈ lw_t2 := lw_in 549 (by decide +kernel) (by decide +kernel)
theorem seX9_step : Cond.selects (mY MX9_step).cls yX9_step yX9_step ∈ lw_t2 := lw_in 551 (by decide +kernel) (by decide +kernel)
theorem mlL_127 : Cond.methodLink RL 127 yJ6_bitCount_0f7a4 ∈ lw_t2 := lw_in 919 (by decide +kernel) (by decide +kernel)
theorem mlL_104 : Cond.methodLink RL 104 yX9_look ∈ lw_t2 := lw_in 561 (by decide +kernel) (by decide +kernel)
theorem seX9_look : Cond.selects (mY MX9_look).cls yX9_look yX9_look ∈ lw_t2 := lw_in 563 (by decide +kernel) (by decide +kernel)
theorem mlL_132 : Cond.methodLink RL 132 yX9_make ∈ lw_t2 := lw_in 928 (by decide +kernel) (by decide +kernel)
theorem seX9_make : Cond.selects (mY MX9_make).cls yX9_make yX9_make ∈ lw_t2 := lw_in 930 (by decide +kernel) (by decide +kernel)
theorem mlL_87 : Cond.methodLink RL 87 yX9_kept ∈ lw_t2 := lw_in 536 (by decide +kernel) (by decide +kernel)
theorem seX9_kept : Cond.selects (mY MX9_kept).cls yX9_kept yX9_kept ∈ lw_t2 := lw_in 538 (by decide +kernel) (by decide +kernel)
theorem mlL_114 : Cond.methodLink RL 114 yX9_term ∈ lw_t2 := lw_in 412 (by decide +kernel) (by decide +kernel)
theorem seX9_term : Cond.selects (mY MX9_term).cls yX9_term yX9_term ∈ lw_t2 := lw_in 414 (by decide +kernel) (by decide +kernel)
theorem mlL_143 : Cond.methodLink RL 143 yJ0_equals_9ea2d ∈ lw_t2 := lw_in 1045 (by decide +kernel) (by decide +kernel)
theorem seJ0_equals_9ea2d : Cond.selects (mY MJ0_equals_9ea2d).cls yJ0_equals_9ea2d yJ0_equals_9ea2d ∈ lw_t2 := lw_in 1047 (by decide +kernel) (by decide +kernel)
theorem mlL_139 : Cond.methodLink RL 139 yL_said ∈ lw_t2 := lw_in 1003 (by decide +kernel) (by decide +kernel)
theorem mlL_136 : Cond.methodLink RL 136 yX9_rest ∈ lw_t2 := lw_in 945 (by decide +kernel) (by decide +kernel)
theorem seX9_rest : Cond.selects (mY MX9_rest).cls yX9_rest yX9_rest ∈ lw_t2 := lw_in 947 (by decide +kernel) (by decide +kernel)
theorem mlL_147 : Cond.methodLink RL 147 yX9_stairs ∈ lw_t2 := lw_in 1053 (by decide +kernel) (by decide +kernel)
theorem seX9_stairs : Cond.selects (mY MX9_stairs).cls yX9_stairs yX9_stairs ∈ lw_t2 := lw_in 1055 (by decide +kernel) (by decide +kernel)
theorem clL_20 : Cond.classLink RL 20 RX9 ∈ lw_t2 := lw_in 54 (by decide +kernel) (by decide +kernel)
theorem is8 : Cond.instantiable (clC 8) (clN 8) ∈ lw_t2 := lw_in 55 (by decide +kernel) (by decide +kernel)
theorem ii8 : Cond.initialized (clC 8) ∈ lw_t2 := lw_in 32 (by decide +kernel) (by decide +kernel)
theorem mlL_75 : Cond.methodLink RL 75 yL_cell ∈ lw_t2 := lw_in 566 (by decide +kernel) (by decide +kernel)
theorem mlL_74 : Cond.methodLink RL 74 yX9_init ∈ lw_t2 := lw_in 56 (by decide +kernel) (by decide +kernel)
theorem mlL_90 : Cond.methodLink RL 90 yX9_weights ∈ lw_t2 := lw_in 385 (by decide +kernel) (by decide +kernel)
theorem seX9_weights : Cond.selects (mY MX9_weights).cls yX9_weights yX9_weights ∈ lw_t2 := lw_in 387 (by decide +kernel) (by decide +kernel)
theorem mlL_79 : Cond.methodLink RL 79 yX9_ring ∈ lw_t2 := lw_in 367 (by decide +kernel) (by decide +kernel)
theorem seX9_ring : Cond.selects (mY MX9_ring).cls yX9_ring yX9_ring ∈ lw_t2 := lw_in 369 (by decide +kernel) (by decide +kernel)
theorem mlL_98 : Cond.methodLink RL 98 yL_poly ∈ lw_t2 := lw_in 574 (by decide +kernel) (by decide +kernel)
theorem mlL_94 : Cond.methodLink RL 94 yL_drawn ∈ lw_t2 := lw_in 699 (by decide +kernel) (by decide +kernel)
theorem mlL_101 : Cond.methodLink RL 101 yX9_weak ∈ lw_t2 := lw_in 443 (by decide +kernel) (by decide +kernel)
theorem seX9_weak : Cond.selects (mY MX9_weak).cls yX9_weak yX9_weak ∈ lw_t2 := lw_in 445 (by decide +kernel) (by decide +kernel)
theorem mlL_123 : Cond.methodLink RL 123 yL_isRest ∈ lw_t2 := lw_in 942 (by decide +kernel) (by decide +kernel)
theorem mlL_120 : Cond.methodLink RL 120 yL_isLeft ∈ lw_t2 := lw_in 939 (by decide +kernel) (by decide +kernel)
theorem mlL_117 : Cond.methodLink RL 117 yL_isWhole ∈ lw_t2 := lw_in 925 (by decide +kernel) (by decide +kernel)
theorem mlL_111 : Cond.methodLink RL 111 yX9_shape ∈ lw_t2 := lw_in 424 (by decide +kernel) (by decide +kernel)
theorem seX9_shape : Cond.selects (mY MX9_shape).cls yX9_shape yX9_shape ∈ lw_t2 := lw_in 426 (by decide +kernel) (by decide +kernel)
theorem mlL_107 : Cond.methodLink RL 107 yL_isStepped ∈ lw_t2 := lw_in 916 (by decide +kernel) (by decide +kernel)
end
section
def LJ7_fill_53178_5 (G : Gl) (x0 : Nat) (x1 : Int) (x2 : Int) (x3 : Int) (S : Sh) (I : MI) (R : MR) (Q : Sh → MI → MR → Prop) : Prop := E G MJ7_fill_53178 5 [(0, vR x0), (1, vI x1), (2, vI x2), (3, vI x3)] [] S I R (qV Q)
set_option maxRecDepth 100000 in
set_option maxHeartbeats 4000000 in
theorem bJ7_fill_53178 {G : Gl} {S : Sh} {I : MI} {R : MR} {Q : Sh → MI → MR → Prop} {x0 : Nat} {x1 : Int} (h : (21 ≤ sT S x0 ∧ LJ7_fill_53178_5 G x0 x1 0 (sL S x0 : Int) S I R Q)) : CV G MJ7_fill_53178 [vR x0, vI x1] S I R Q := by
  show E G MJ7_fill_53178 0 [(0, vR x0), (1, vI x1)] [] S I R (qV Q)
  refine e_iconst dJ7_fill_53178_0 (by unfold InR; decide) ?_
  refine e_istore_n (ls2 := [(2, vI 0), (0, vR x0), (1, vI x1)]) dJ7_fill_53178_1 (by decide) rfl ?_
  refine e_aload_n 1 dJ7_fill_53178_2 rfl ?_
  have o1 := h.1
  replace h := h.2
  refine e_alen dJ7_fill_53178_3 o1 ?_
  refine e_istore_n (ls2 := [(3, vI (sL S x0 : Int)), (2, vI 0), (0, vR x0), (1, vI x1)]) dJ7_fill_53178_4 (by decide) rfl ?_
  exact e_sub (ls2 := [(0, vR x0), (1, vI x1), (2, vI 0), (3, vI (sL S x0 : Int))]) [2, 3, 1, 0] rfl h
set_option maxRecDepth 100000 in
set_option maxHeartbeats 4000000 in
theorem bJ7_fill_53178_5 {G : Gl} {S : Sh} {I : MI} {R : MR} {Q : Sh → MI → MR → Prop} {x0 : Nat} {x1 : Int} {x2 : Int} {x3 : Int} (h : ((x3 ≤ x2 → Q S I R) ∧ (¬ (x3 ≤ x2) → (sT S x0 = 21 ∧ (((0 : Int) ≤ x2 ∧ x2 < (sL S x0 : Int)) ∧ (∀ I13, I13 = up2 I x0 (Int.toNat x2) x1 → LJ7_fill_53178_5 G x0 x1 (w32 (x2 + 1)) x3 S I13 R Q)))))) : LJ7_fill_53178_5 G x0 x1 x2 x3 S I R Q := by
  show E G MJ7_fill_53178 5 [(0, vR x0), (1, vI x1), (2, vI x2), (3, vI x3)] [] S I R (qV Q)
  refine e_iload_n 2 dJ7_fill_53178_5 rfl ?_
  refine e_iload_n 3 dJ7_fill_53178_6 rfl ?_
  refine e_icmp_ge (tgt := 20) dJ7_fill_53178_7 (by decide) (fun c => ?_) (fun c => ?_)
  · replace h := h.1 c
    exact e_return dJ7_fill_53178_20 rfl ⟨rfl, h⟩
  · replace h := h.2 c
    refine e_aload_n 0 dJ7_fill_53178_10 rfl ?_
    refine e_iload_n 2 dJ7_fill_53178_11 rfl ?_
    refine e_iload_n 1 dJ7_fill_53178_12 rfl ?_
    have o2 := h.1
    replace h := h.2
    have o3 := h.1
    replace h := h.2
    obtain ⟨I13, eI13⟩ : ∃ z : MI, z = up2 I x0 (Int.toNat x2) x1 := ⟨_, rfl⟩
    replace h := h I13 eI13
    refine e_iast dJ7_fill_53178_13 o2 o3 (eqI eI13 ?_)
    refine e_iinc (ls2 := [(2, vI (w32 (x2 + 1))), (0, vR x0), (1, vI x1), (3, vI x3)]) 2 dJ7_fill_53178_14 rfl (by decide) rfl ?_
    refine e_goto (tgt := 5) dJ7_fill_53178_17 (by decide) ?_
    exact e_sub (ls2 := [(0, vR x0), (1, vI x1), (2, vI (w32 (x2 + 1))), (3, vI x3)]) [1, 2, 0, 3] rfl h

set_option maxRecDepth 100000 in
set_option maxHeartbeats 4000000 in
theorem bJ5_init_d00df {G : Gl} {S : Sh} {I : MI} {R : MR} {Q : Sh → MI → MR → Prop} {x0 : Nat} {x1 : Int} (h : (sT S x0 ≠ 0 ∧ (∃ n12 : Nat, x1 = (n12 : Int) ∧ n12 ≤ 100000000 ∧ (∀ S12 I12 R12, S12 = shNew S 22 n12 n12 → I12 = mNew I (sN S) 0 → R12 = mNew R (sN S) 0 → (sT S12 x0 = 11 ∧ (∀ R14, R14 = up2 R12 x0 0 (sN S) → (∀ I19, I19 = up2 I12 x0 1 0 → Q S12 I19 R14))))))) : CV G MJ5_init_d00df [vR x0, vI x1] S I R Q := by
  show E G MJ5_init_d00df 0 [(0, vR x0), (1, vI x1)] [] S I R (qV Q)
  refine e_aload_n 0 dJ5_init_d00df_0 rfl ?_
  have o1 := h.1
  replace h := h.2
  refine e_objI dJ5_init_d00df_1 ⟨moJ5_3, oc⟩ (by decide) (Nat.le_of_ble_eq_true rfl) o1 ?_
  refine e_getsC dJ5_init_d00df_4 fsJ5_18 ?_
  refine e_if_eq (tgt := 25) dJ5_init_d00df_7 (by decide) (fun c => absurd c (by decide)) (fun _ => ?_)
  refine e_aload_n 0 dJ5_init_d00df_10 rfl ?_
  refine e_iload_n 1 dJ5_init_d00df_11 rfl ?_
  obtain ⟨n12, h0, h1, h⟩ := h
  obtain ⟨S12, eS12⟩ : ∃ z : Sh, z = shNew S 22 n12 n12 := ⟨_, rfl⟩
  obtain ⟨I12, eI12⟩ : ∃ z : MI, z = mNew I (sN S) 0 := ⟨_, rfl⟩
  obtain ⟨R12, eR12⟩ : ∃ z : MR, z = mNew R (sN S) 0 := ⟨_, rfl⟩
  replace h := h S12 I12 R12 eS12 eI12 eR12
  refine e_newa (t := 22) (n := n12) dJ5_init_d00df_12 (Or.inr ⟨rfl, rfl⟩) acbyte h0 h1 (eqS eS12 (eqI eI12 (eqR eR12 ?_)))
  have o2 := h.1
  replace h := h.2
  obtain ⟨R14, eR14⟩ : ∃ z : MR, z = up2 R12 x0 0 (sN S) := ⟨_, rfl⟩
  replace h := h R14 eR14
  refine e_putR dJ5_init_d00df_14 flJ5_15 rfl (Or.inl rfl) o2 (eqR eR14 ?_)
  refine e_aload_n 0 dJ5_init_d00df_17 rfl ?_
  refine e_iconst dJ5_init_d00df_18 (by unfold InR; decide) ?_
  obtain ⟨I19, eI19⟩ : ∃ z : MI, z = up2 I12 x0 1 0 := ⟨_, rfl⟩
  replace h := h I19 eI19
  refine e_putB dJ5_init_d00df_19 flJ5_22 rfl (Or.inl rfl) o2 (by decide) (eqI eI19 ?_)
  refine e_goto (tgt := 38) dJ5_init_d00df_22 (by decide) ?_
  exact e_return dJ5_init_d00df_38 rfl ⟨rfl, h⟩

def vJ5_length_8abf5 (I : MI) (x0 : Nat) : Int := (I x0 3)
def pJ5_length_8abf5 (S : Sh) (x0 : Nat) : Prop := (sT S x0 = 11 ∧ True)
set_option maxRecDepth 100000 in
set_option maxHeartbeats 4000000 in
theorem sJ5_length_8abf5 {G : Gl} {S : Sh} {I : MI} {R : MR} {Q : Sh → MI → MR → Int → Prop} {x0 : Nat} (hp : pJ5_length_8abf5 S x0) (hq : Q S I R (vJ5_length_8abf5 I x0)) : CI G MJ5_length_8abf5 [vR x0] S I R Q := by
  show E G MJ5_length_8abf5 0 [(0, vR x0)] [] S I R (qI Q)
  unfold vJ5_length_8abf5 at hq
  unfold pJ5_length_8abf5 at hp
  refine e_aload_n 0 dJ5_length_8abf5_0 rfl ?_
  have o1 := hp.1
  replace hp := hp.2
  refine e_getI dJ5_length_8abf5_1 flJ5_79 rfl o1 ?_
  exact e_ireturn dJ5_length_8abf5_4 rfl ⟨_, rfl, hq⟩

def vJ8_newLength_cabcc  (x0 : Int) (x1 : Int) (x2 : Int) : Int := (if (w32 (x0 + (max x1 x2))) ≤ 0 then 0 else (if 2147483639 < (w32 (x0 + (max x1 x2))) then 0 else (w32 (x0 + (max x1 x2)))))
def pJ8_newLength_cabcc  (x0 : Int) (x1 : Int) (x2 : Int) : Prop := (((w32 (x0 + (max x1 x2))) ≤ 0 → False) ∧ (¬ ((w32 (x0 + (max x1 x2))) ≤ 0) → ((2147483639 < (w32 (x0 + (max x1 x2))) → False) ∧ (¬ (2147483639 < (w32 (x0 + (max x1 x2)))) → True))))
set_option maxRecDepth 100000 in
set_option maxHeartbeats 4000000 in
theorem sJ8_newLength_cabcc {G : Gl} {S : Sh} {I : MI} {R : MR} {Q : Sh → MI → MR → Int → Prop} {x0 : Int} {x1 : Int} {x2 : Int} (hp : pJ8_newLength_cabcc x0 x1 x2) (hq : Q S I R (vJ8_newLength_cabcc x0 x1 x2)) : CI G MJ8_newLength_cabcc [vI x0, vI x1, vI x2] S I R Q := by
  show E G MJ8_newLength_cabcc 0 [(0, vI x0), (1, vI x1), (2, vI x2)] [] S I R (qI Q)
  unfold vJ8_newLength_cabcc at hq
  unfold pJ8_newLength_cabcc at hp
  refine e_iload_n 0 dJ8_newLength_cabcc_0 rfl ?_
  refine e_iload_n 1 dJ8_newLength_cabcc_1 rfl ?_
  refine e_iload_n 2 dJ8_newLength_cabcc_2 rfl ?_
  refine e_mmax dJ8_newLength_cabcc_3 mmJ8_194 mxmax (by decide) (Nat.le_of_ble_eq_true rfl) ?_
  refine e_iadd dJ8_newLength_cabcc_6 ?_
  refine e_istore_n (ls2 := [(3, vI (w32 (x0 + (max x1 x2)))), (0, vI x0), (1, vI x1), (2, vI x2)]) dJ8_newLength_cabcc_7 (by decide) rfl ?_
  refine e_iconst dJ8_newLength_cabcc_8 (by unfold InR; decide) ?_
  refine e_iload_n 0 dJ8_newLength_cabcc_9 rfl ?_
  refine e_icmp_ge (tgt := 21) dJ8_newLength_cabcc_10 (by decide) (fun c => ?_) (fun c => ?_)
  · rw [if_pos c] at hq
    replace hp := hp.1 c
    refine e_iload_n 1 dJ8_newLength_cabcc_21 rfl ?_
    refine e_iload_n 2 dJ8_newLength_cabcc_22 rfl ?_
    exact hp.elim
  · rw [if_neg c] at hq
    replace hp := hp.2 c
    refine e_iload_n 0 dJ8_newLength_cabcc_13 rfl ?_
    refine e_ldc (x := 2147483639) dJ8_newLength_cabcc_14 cnJ8_200 (by unfold InR; decide) ?_
    refine e_icmp_gt (tgt := 21) dJ8_newLength_cabcc_16 (by decide) (fun c => ?_) (fun c => ?_)
    · rw [if_pos c] at hq
      replace hp := hp.1 c
      refine e_iload_n 1 dJ8_newLength_cabcc_21 rfl ?_
      refine e_iload_n 2 dJ8_newLength_cabcc_22 rfl ?_
      exact hp.elim
    · rw [if_neg c] at hq
      replace hp := hp.2 c
      refine e_iload_n 0 dJ8_newLength_cabcc_19 rfl ?_
      exact e_ireturn dJ8_newLength_cabcc_20 rfl ⟨_, rfl, hq⟩

def vJ5_newCapacity_0f7a4 (S : Sh) (I : MI) (R : MR) (x0 : Nat) (x1 : Int) : Int := (if (vJ8_newLength_cabcc (sL S (R x0 0) : Int) (w32 ((ishl x1 (I x0 1)) - (sL S (R x0 0) : Int))) (w32 ((sL S (R x0 0) : Int) + (ishl 2 (I x0 1))))) ≠ 2147483647 then (ishr (vJ8_newLength_cabcc (sL S (R x0 0) : Int) (w32 ((ishl x1 (I x0 1)) - (sL S (R x0 0) : Int))) (w32 ((sL S (R x0 0) : Int) + (ishl 2 (I x0 1))))) (I x0 1)) else 0)
def pJ5_newCapacity_0f7a4 (S : Sh) (I : MI) (R : MR) (x0 : Nat) (x1 : Int) : Prop := (sT S x0 = 11 ∧ (21 ≤ sT S (R x0 0) ∧ ((pJ8_newLength_cabcc (sL S (R x0 0) : Int) (w32 ((ishl x1 (I x0 1)) - (sL S (R x0 0) : Int))) (w32 ((sL S (R x0 0) : Int) + (ishl 2 (I x0 1))))) ∧ (((vJ8_newLength_cabcc (sL S (R x0 0) : Int) (w32 ((ishl x1 (I x0 1)) - (sL S (R x0 0) : Int))) (w32 ((sL S (R x0 0) : Int) + (ishl 2 (I x0 1))))) ≠ 2147483647 → True) ∧ (¬ ((vJ8_newLength_cabcc (sL S (R x0 0) : Int) (w32 ((ishl x1 (I x0 1)) - (sL S (R x0 0) : Int))) (w32 ((sL S (R x0 0) : Int) + (ishl 2 (I x0 1))))) ≠ 2147483647) → False)))))
set_option maxRecDepth 100000 in
set_option maxHeartbeats 4000000 in
theorem sJ5_newCapacity_0f7a4 {G : Gl} {S : Sh} {I : MI} {R : MR} {Q : Sh → MI → MR → Int → Prop} {x0 : Nat} {x1 : Int} (hp : pJ5_newCapacity_0f7a4 S I R x0 x1) (hq : Q S I R (vJ5_newCapacity_0f7a4 S I R x0 x1)) : CI G MJ5_newCapacity_0f7a4 [vR x0, vI x1] S I R Q := by
  show E G MJ5_newCapacity_0f7a4 0 [(0, vR x0), (1, vI x1)] [] S I R (qI Q)
  unfold vJ5_newCapacity_0f7a4 at hq
  unfold pJ5_newCapacity_0f7a4 at hp
  refine e_aload_n 0 dJ5_newCapacity_0f7a4_0 rfl ?_
  have o1 := hp.1
  replace hp := hp.2
  refine e_getR dJ5_newCapacity_0f7a4_1 flJ5_15 rfl o1 ?_
  have o2 := hp.1
  replace hp := hp.2
  refine e_alen dJ5_newCapacity_0f7a4_4 o2 ?_
  refine e_istore_n (ls2 := [(2, vI (sL S (R x0 0) : Int)), (0, vR x0), (1, vI x1)]) dJ5_newCapacity_0f7a4_5 (by decide) rfl ?_
  refine e_iload_n 2 dJ5_newCapacity_0f7a4_6 rfl ?_
  refine e_aload_n 1 dJ5_newCapacity_0f7a4_7 rfl ?_
  refine e_getI dJ5_newCapacity_0f7a4_8 flJ5_22 rfl o1 ?_
  refine e_ishl dJ5_newCapacity_0f7a4_11 ?_
  refine e_istore_n (ls2 := [(3, vI (ishl x1 (I x0 1))), (2, vI (sL S (R x0 0) : Int)), (0, vR x0), (1, vI x1)]) dJ5_newCapacity_0f7a4_12 (by decide) rfl ?_
  refine e_iload_n 0 dJ5_newCapacity_0f7a4_13 rfl ?_
  refine e_iload_n 1 dJ5_newCapacity_0f7a4_14 rfl ?_
  refine e_isub dJ5_newCapacity_0f7a4_15 ?_
  refine e_istore (ls2 := [(4, vI (w32 ((ishl x1 (I x0 1)) - (sL S (R x0 0) : Int)))), (3, vI (ishl x1 (I x0 1))), (2, vI (sL S (R x0 0) : Int)), (0, vR x0), (1, vI x1)]) dJ5_newCapacity_0f7a4_16 (by decide) rfl ?_
  refine e_iload_n 2 dJ5_newCapacity_0f7a4_18 rfl ?_
  refine e_iload 0 dJ5_newCapacity_0f7a4_19 rfl ?_
  refine e_iload_n 2 dJ5_newCapacity_0f7a4_21 rfl ?_
  refine e_iconst dJ5_newCapacity_0f7a4_22 (by unfold InR; decide) ?_
  refine e_aload_n 3 dJ5_newCapacity_0f7a4_23 rfl ?_
  refine e_getI dJ5_newCapacity_0f7a4_24 flJ5_22 rfl o1 ?_
  refine e_ishl dJ5_newCapacity_0f7a4_27 ?_
  refine e_iadd dJ5_newCapacity_0f7a4_28 ?_
  have o3 := hp.1
  replace hp := hp.2
  refine i_SI (μ' := MJ8_newLength_cabcc) (as := [vI (sL S (R x0 0) : Int), vI (w32 ((ishl x1 (I x0 1)) - (sL S (R x0 0) : Int))), vI (w32 ((sL S (R x0 0) : Int) + (ishl 2 (I x0 1))))]) (st := []) rfl dJ5_newCapacity_0f7a4_29 mOKJ8_newLength_cabcc ⟨mlJ5_114, stJ8_newLength_cabcc⟩ (by decide) (Nat.le_of_ble_eq_true rfl) rfl (Nat.le_of_ble_eq_true rfl) (sJ8_newLength_cabcc o3 ?_)
  refine e_istore (ls2 := [(5, vI (vJ8_newLength_cabcc (sL S (R x0 0) : Int) (w32 ((ishl x1 (I x0 1)) - (sL S (R x0 0) : Int))) (w32 ((sL S (R x0 0) : Int) + (ishl 2 (I x0 1)))))), (4, vI (w32 ((ishl x1 (I x0 1)) - (sL S (R x0 0) : Int)))), (3, vI (ishl x1 (I x0 1))), (2, vI (sL S (R x0 0) : Int)), (0, vR x0), (1, vI x1)]) dJ5_newCapacity_0f7a4_32 (by decide) rfl ?_
  refine e_iload 0 dJ5_newCapacity_0f7a4_34 rfl ?_
  refine e_ldc (x := 2147483647) dJ5_newCapacity_0f7a4_36 cnJ5_39 (by unfold InR; decide) ?_
  refine e_icmp_ne (tgt := 51) dJ5_newCapacity_0f7a4_38 (by decide) (fun c => ?_) (fun c => ?_)
  · rw [if_pos c] at hq
    replace hp := hp.1 c
    refine e_iload 0 dJ5_newCapacity_0f7a4_51 rfl ?_
    refine e_aload_n 4 dJ5_newCapacity_0f7a4_53 rfl ?_
    refine e_getI dJ5_newCapacity_0f7a4_54 flJ5_22 rfl o1 ?_
    refine e_ishr dJ5_newCapacity_0f7a4_57 ?_
    exact e_ireturn dJ5_newCapacity_0f7a4_58 rfl ⟨_, rfl, hq⟩
  · rw [if_neg c] at hq
    replace hp := hp.2 c
    exact hp.elim

set_option maxRecDepth 100000 in
set_option maxHeartbeats 4000000 in
theorem bJ7_copyOf_9075b {G : Gl} {S : Sh} {I : MI} {R : MR} {Q : Sh → MI → MR → Nat → Prop} {x0 : Nat} {x1 : Int} (h : (21 ≤ sT S x0 ∧ ((x1 ≠ (sL S x0 : Int) → (∃ n15 : Nat, x1 = (n15 : Int) ∧ n15 ≤ 100000000 ∧ (∀ S15 I15 R15, S15 = shNew S 22 n15 n15 → I15 = mNew I (sN S) 0 → R15 = mNew R (sN S) 0 → (21 ≤ sT S15 x0 ∧ (sT S15 x0 = 22 ∧ (sT S15 (sN S) = 22 ∧ ((0 : Int) ≤ 0 ∧ ((0 : Int) ≤ (min (sL S15 x0 : Int) x1) ∧ (0 + (min (sL S15 x0 : Int) x1) ≤ (sL S15 x0 : Int) ∧ (0 + (min (sL S15 x0 : Int) x1) ≤ (sL S15 (sN S) : Int) ∧ (∀ I28, I28 = up1 I15 (sN S) (va_cpy (I15 x0) (I15 (sN S)) (Int.toNat 0) (Int.toNat 0) (Int.toNat (min (sL S15 x0 : Int) x1))) → Q S15 I28 R15 (sN S)))))))))))) ∧ (¬ (x1 ≠ (sL S x0 : Int)) → (sT S x0 = 22 ∧ (∀ S7 I7 R7, S7 = shNew S 22 (sL S x0) (sL S x0) → I7 = mCl I (sN S) x0 → R7 = mNew R (sN S) 0 → (sT S7 (sN S) = 22 ∧ Q S7 I7 R7 (sN S)))))))) : CR G MJ7_copyOf_9075b [vR x0, vI x1] S I R Q := by
  show E G MJ7_copyOf_9075b 0 [(0, vR x0), (1, vI x1)] [] S I R (qR Q)
  refine e_iload_n 1 dJ7_copyOf_9075b_0 rfl ?_
  refine e_aload_n 0 dJ7_copyOf_9075b_1 rfl ?_
  have o1 := h.1
  replace h := h.2
  refine e_alen dJ7_copyOf_9075b_2 o1 ?_
  refine e_icmp_ne (tgt := 14) dJ7_copyOf_9075b_3 (by decide) (fun c => ?_) (fun c => ?_)
  · replace h := h.1 c
    refine e_iload_n 1 dJ7_copyOf_9075b_14 rfl ?_
    obtain ⟨n15, h0, h1, h⟩ := h
    obtain ⟨S15, eS15⟩ : ∃ z : Sh, z = shNew S 22 n15 n15 := ⟨_, rfl⟩
    obtain ⟨I15, eI15⟩ : ∃ z : MI, z = mNew I (sN S) 0 := ⟨_, rfl⟩
    obtain ⟨R15, eR15⟩ : ∃ z : MR, z = mNew R (sN S) 0 := ⟨_, rfl⟩
    replace h := h S15 I15 R15 eS15 eI15 eR15
    refine e_newa (t := 22) (n := n15) dJ7_copyOf_9075b_15 (Or.inr ⟨rfl, rfl⟩) acbyte h0 h1 (eqS eS15 (eqI eI15 (eqR eR15 ?_)))
    refine e_astore_n (ls2 := [(2, vR (sN S)), (0, vR x0), (1, vI x1)]) dJ7_copyOf_9075b_17 (by decide) rfl ?_
    refine e_aload_n 1 dJ7_copyOf_9075b_18 rfl ?_
    refine e_iconst dJ7_copyOf_9075b_19 (by unfold InR; decide) ?_
    refine e_aload_n 0 dJ7_copyOf_9075b_20 rfl ?_
    refine e_iconst dJ7_copyOf_9075b_21 (by unfold InR; decide) ?_
    refine e_aload_n 1 dJ7_copyOf_9075b_22 rfl ?_
    have o2 := h.1
    replace h := h.2
    refine e_alen dJ7_copyOf_9075b_23 o2 ?_
    refine e_iload_n 2 dJ7_copyOf_9075b_24 rfl ?_
    refine e_mmin dJ7_copyOf_9075b_25 mmJ7_304 mxmin (by decide) (Nat.le_of_ble_eq_true rfl) ?_
    have o3 := h.1
    replace h := h.2
    have o4 := h.1
    replace h := h.2
    have o5 := h.1
    replace h := h.2
    have o6 := h.1
    replace h := h.2
    have o7 := h.1
    replace h := h.2
    have o8 := h.1
    replace h := h.2
    obtain ⟨I28, eI28⟩ : ∃ z : MI, z = up1 I15 (sN S) (va_cpy (I15 x0) (I15 (sN S)) (Int.toNat 0) (Int.toNat 0) (Int.toNat (min (sL S15 x0 : Int) x1))) := ⟨_, rfl⟩
    replace h := h I28 eI28
    refine e_copyB dJ7_copyOf_9075b_28 ⟨maJ7_150, acp⟩ (by decide) (Nat.le_of_ble_eq_true rfl) o3 o4 o5 o5 o6 o7 o8 (eqI eI28 ?_)
    refine e_aload_n 0 dJ7_copyOf_9075b_31 rfl ?_
    exact e_areturnA dJ7_copyOf_9075b_32 ⟨_, rfl⟩ ⟨_, rfl, h⟩
  · replace h := h.2 c
    refine e_aload_n 0 dJ7_copyOf_9075b_6 rfl ?_
    have o9 := h.1
    replace h := h.2
    obtain ⟨S7, eS7⟩ : ∃ z : Sh, z = shNew S 22 (sL S x0) (sL S x0) := ⟨_, rfl⟩
    obtain ⟨I7, eI7⟩ : ∃ z : MI, z = mCl I (sN S) x0 := ⟨_, rfl⟩
    obtain ⟨R7, eR7⟩ : ∃ z : MR, z = mNew R (sN S) 0 := ⟨_, rfl⟩
    replace h := h S7 I7 R7 eS7 eI7 eR7
    refine e_clone dJ7_copyOf_9075b_7 ⟨mcJ7_310, mclo⟩ (by decide) (Nat.le_of_ble_eq_true rfl) o9 (eqS eS7 (eqI eI7 (eqR eR7 ?_)))
    have o10 := h.1
    replace h := h.2
    refine e_castB dJ7_copyOf_9075b_10 ⟨clJ7_311, acbyte⟩ o10 ?_
    exact e_areturnA dJ7_copyOf_9075b_13 ⟨_, rfl⟩ ⟨_, rfl, h⟩

set_option maxRecDepth 100000 in
set_option maxHeartbeats 4000000 in
theorem bJ5_ensureCapacityInternal_d00df {G : Gl} {S : Sh} {I : MI} {R : MR} {Q : Sh → MI → MR → Prop} {x0 : Nat} {x1 : Int} (h : (sT S x0 = 11 ∧ (21 ≤ sT S (R x0 0) ∧ (((w32 (x1 - (ishr (sL S (R x0 0) : Int) (I x0 1)))) ≤ 0 → Q S I R) ∧ (¬ ((w32 (x1 - (ishr (sL S (R x0 0) : Int) (I x0 1)))) ≤ 0) → ((pJ5_newCapacity_0f7a4 S I R x0 x1) ∧ (CR G MJ7_copyOf_9075b [vR (R x0 0), vI (ishl (vJ5_newCapacity_0f7a4 S I R x0 x1) (I x0 1))] S I R (fun S32 I32 R32 x32_ => (sT S32 x0 = 11 ∧ (∀ R35, R35 = up2 R32 x0 0 x32_ → Q S32 I32 R35)))))))))) : CV G MJ5_ensureCapacityInternal_d00df [vR x0, vI x1] S I R Q := by
  show E G MJ5_ensureCapacityInternal_d00df 0 [(0, vR x0), (1, vI x1)] [] S I R (qV Q)
  refine e_aload_n 0 dJ5_ensureCapacityInternal_d00df_0 rfl ?_
  have o1 := h.1
  replace h := h.2
  refine e_getR dJ5_ensureCapacityInternal_d00df_1 flJ5_15 rfl o1 ?_
  have o2 := h.1
  replace h := h.2
  refine e_alen dJ5_ensureCapacityInternal_d00df_4 o2 ?_
  refine e_aload_n 0 dJ5_ensureCapacityInternal_d00df_5 rfl ?_
  refine e_getI dJ5_ensureCapacityInternal_d00df_6 flJ5_22 rfl o1 ?_
  refine e_ishr dJ5_ensureCapacityInternal_d00df_9 ?_
  refine e_istore_n (ls2 := [(2, vI (ishr (sL S (R x0 0) : Int) (I x0 1))), (0, vR x0), (1, vI x1)]) dJ5_ensureCapacityInternal_d00df_10 (by decide) rfl ?_
  refine e_iload_n 2 dJ5_ensureCapacityInternal_d00df_11 rfl ?_
  refine e_iload_n 0 dJ5_ensureCapacityInternal_d00df_12 rfl ?_
  refine e_isub dJ5_ensureCapacityInternal_d00df_13 ?_
  refine e_if_le (tgt := 38) dJ5_ensureCapacityInternal_d00df_14 (by decide) (fun c => ?_) (fun c => ?_)
  · replace h := h.1 c
    exact e_return dJ5_ensureCapacityInternal_d00df_38 rfl ⟨rfl, h⟩
  · replace h := h.2 c
    refine e_aload_n 1 dJ5_ensureCapacityInternal_d00df_17 rfl ?_
    refine e_aload_n 1 dJ5_ensureCapacityInternal_d00df_18 rfl ?_
    refine e_getR dJ5_ensureCapacityInternal_d00df_19 flJ5_15 rfl o1 ?_
    refine e_aload_n 1 dJ5_ensureCapacityInternal_d00df_22 rfl ?_
    refine e_iload_n 2 dJ5_ensureCapacityInternal_d00df_23 rfl ?_
    have o3 := h.1
    replace h := h.2
    refine i_VUI (μ' := MJ5_newCapacity_0f7a4) (r := x0) (as := [vI x1]) (st := [vR (R x0 0), vR x0]) rfl dJ5_ensureCapacityInternal_d00df_24 mOKJ5_newCapacity_0f7a4 rfl ⟨mlJ5_104, imJ5_newCapacity_0f7a4, suJ5_newCapacity_0f7a4⟩ (by decide) (Nat.le_of_ble_eq_true rfl) rfl (Nat.le_of_ble_eq_true rfl) o1 (sJ5_newCapacity_0f7a4 o3 ?_)
    refine e_aload_n 1 dJ5_ensureCapacityInternal_d00df_27 rfl ?_
    refine e_getI dJ5_ensureCapacityInternal_d00df_28 flJ5_22 rfl o1 ?_
    refine e_ishl dJ5_ensureCapacityInternal_d00df_31 ?_
    refine i_SR (μ' := MJ7_copyOf_9075b) (as := [vR (R x0 0), vI (ishl (vJ5_newCapacity_0f7a4 S I R x0 x1) (I x0 1))]) (st := [vR x0]) rfl dJ5_ensureCapacityInternal_d00df_32 mOKJ7_copyOf_9075b ⟨mlJ5_108, stJ7_copyOf_9075b⟩ (by decide) (Nat.le_of_ble_eq_true rfl) rfl (Nat.le_of_ble_eq_true rfl) (CR.mono h ?_)
    clear h
    intro S32 I32 R32 x32_ h
    have o4 := h.1
    replace h := h.2
    obtain ⟨R35, eR35⟩ : ∃ z : MR, z = up2 R32 x0 0 x32_ := ⟨_, rfl⟩
    replace h := h R35 eR35
    refine e_putR dJ5_ensureCapacityInternal_d00df_35 flJ5_15 rfl (Or.inl rfl) o4 (eqR eR35 ?_)
    exact e_return dJ5_ensureCapacityInternal_d00df_38 rfl ⟨rfl, h⟩

def vJ0_coder_7d493 (I : MI) (x0 : Nat) : Int := (I x0 1)
def pJ0_coder_7d493 (S : Sh) (I : MI) (x0 : Nat) : Prop := (sT S x0 = 10 ∧ ((-128 ≤ (I x0 1) ∧ (I x0 1) < 128) ∧ True))
set_option maxRecDepth 100000 in
set_option maxHeartbeats 4000000 in
theorem sJ0_coder_7d493 {G : Gl} {S : Sh} {I : MI} {R : MR} {Q : Sh → MI → MR → Int → Prop} {x0 : Nat} (hp : pJ0_coder_7d493 S I x0) (hq : Q S I R (vJ0_coder_7d493 I x0)) : CI G MJ0_coder_7d493 [vR x0] S I R Q := by
  show E G MJ0_coder_7d493 0 [(0, vR x0)] [] S I R (qI Q)
  unfold vJ0_coder_7d493 at hq
  unfold pJ0_coder_7d493 at hp
  refine e_getsC dJ0_coder_7d493_0 fsJ0_38 ?_
  refine e_if_eq (tgt := 13) dJ0_coder_7d493_3 (by decide) (fun c => absurd c (by decide)) (fun _ => ?_)
  refine e_aload_n 0 dJ0_coder_7d493_6 rfl ?_
  have o1 := hp.1
  replace hp := hp.2
  refine e_getI dJ0_coder_7d493_7 flJ0_15 rfl o1 ?_
  refine e_goto (tgt := 14) dJ0_coder_7d493_10 (by decide) ?_
  have o2 := hp.1
  replace hp := hp.2
  exact e_breturn dJ0_coder_7d493_14 rfl o2 ⟨_, rfl, hq⟩
def vJ0_coder_7d493_K  (x0 : Nat) : Int := 0
def pJ0_coder_7d493_K  (x0 : Nat) : Prop := (x0 < 6 ∧ True)
set_option maxRecDepth 100000 in
set_option maxHeartbeats 4000000 in
theorem sJ0_coder_7d493_K {G : Gl} {S : Sh} {I : MI} {R : MR} {Q : Sh → MI → MR → Int → Prop} {x0 : Nat} (hp : pJ0_coder_7d493_K x0) (hq : Q S I R (vJ0_coder_7d493_K x0)) : CI G MJ0_coder_7d493 [vO (x0 + 1)] S I R Q := by
  show E G MJ0_coder_7d493 0 [(0, vO (x0 + 1))] [] S I R (qI Q)
  unfold vJ0_coder_7d493_K at hq
  unfold pJ0_coder_7d493_K at hp
  refine e_getsC dJ0_coder_7d493_0 fsJ0_38 ?_
  refine e_if_eq (tgt := 13) dJ0_coder_7d493_3 (by decide) (fun c => absurd c (by decide)) (fun _ => ?_)
  refine e_aload_n 0 dJ0_coder_7d493_6 rfl ?_
  have o1 := hp.1
  replace hp := hp.2
  refine e_getLc o1 dJ0_coder_7d493_7 fkJ0_15 ?_
  refine e_goto (tgt := 14) dJ0_coder_7d493_10 (by decide) ?_
  exact e_breturn dJ0_coder_7d493_14 rfl (by decide) ⟨_, rfl, hq⟩

set_option maxRecDepth 100000 in
set_option maxHeartbeats 4000000 in
theorem bJ5_inflateIfNeededFor_a7421 {G : Gl} {S : Sh} {I : MI} {R : MR} {Q : Sh → MI → MR → Prop} {x0 : Nat} {x1 : Nat} (h : (sT S x0 = 11 ∧ (x1 < 6 ∧ ((pJ0_coder_7d493_K x1) ∧ (((I x0 1) = (vJ0_coder_7d493_K x1) → Q S I R) ∧ (¬ ((I x0 1) = (vJ0_coder_7d493_K x1)) → False)))))) : CV G MJ5_inflateIfNeededFor_a7421 [vR x0, vO (x1 + 1)] S I R Q := by
  show E G MJ5_inflateIfNeededFor_a7421 0 [(0, vR x0), (1, vO (x1 + 1))] [] S I R (qV Q)
  refine e_getsC dJ5_inflateIfNeededFor_a7421_0 fsJ5_18 ?_
  refine e_if_eq (tgt := 21) dJ5_inflateIfNeededFor_a7421_3 (by decide) (fun c => absurd c (by decide)) (fun _ => ?_)
  refine e_aload_n 0 dJ5_inflateIfNeededFor_a7421_6 rfl ?_
  have o1 := h.1
  replace h := h.2
  refine e_getI dJ5_inflateIfNeededFor_a7421_7 flJ5_22 rfl o1 ?_
  refine e_aload_n 1 dJ5_inflateIfNeededFor_a7421_10 rfl ?_
  have o2 := h.1
  replace h := h.2
  have o3 := h.1
  replace h := h.2
  refine i_VLI (μ' := MJ0_coder_7d493) (j := x1) (as := []) (st := [vI (I x0 1)]) rfl o2 dJ5_inflateIfNeededFor_a7421_11 mOKJ0_coder_7d493 ⟨mlJ5_40, imJ0_coder_7d493, seJ0_coder_7d493⟩ (by decide) (Nat.le_of_ble_eq_true rfl) rfl (Nat.le_of_ble_eq_true rfl) rfl (sJ0_coder_7d493_K o3 ?_)
  refine e_icmp_eq (tgt := 21) dJ5_inflateIfNeededFor_a7421_14 (by decide) (fun c => ?_) (fun c => ?_)
  · replace h := h.1 c
    exact e_return dJ5_inflateIfNeededFor_a7421_21 rfl ⟨rfl, h⟩
  · replace h := h.2 c
    refine e_aload_n 0 dJ5_inflateIfNeededFor_a7421_17 rfl ?_
    exact h.elim

set_option maxRecDepth 100000 in
set_option maxHeartbeats 4000000 in
theorem bJ0_getBytes_840e7 {G : Gl} {S : Sh} {I : MI} {R : MR} {Q : Sh → MI → MR → Prop} {x0 : Nat} {x1 : Nat} {x2 : Int} {x3 : Int} (h : (x0 < 6 ∧ ((pJ0_coder_7d493_K x0) ∧ (((vJ0_coder_7d493_K x0) ≠ x3 → False) ∧ (¬ ((vJ0_coder_7d493_K x0) ≠ x3) → (sT S x1 = 22 ∧ ((0 : Int) ≤ 0 ∧ ((0 : Int) ≤ (ishl x2 x3) ∧ ((0 : Int) ≤ (litLen.getD x0 0 : Int) ∧ (0 + (litLen.getD x0 0 : Int) ≤ (litLen.getD x0 0 : Int) ∧ ((ishl x2 x3) + (litLen.getD x0 0 : Int) ≤ (sL S x1 : Int) ∧ (∀ I22, I22 = up1 I x1 (va_cpy (litF x0) (I x1) (Int.toNat 0) (Int.toNat (ishl x2 x3)) (Int.toNat (litLen.getD x0 0 : Int))) → Q S I22 R)))))))))))) : CV G MJ0_getBytes_840e7 [vO (x0 + 1), vR x1, vI x2, vI x3] S I R Q := by
  show E G MJ0_getBytes_840e7 0 [(0, vO (x0 + 1)), (1, vR x1), (2, vI x2), (3, vI x3)] [] S I R (qV Q)
  refine e_aload_n 0 dJ0_getBytes_840e7_0 rfl ?_
  have o1 := h.1
  replace h := h.2
  have o2 := h.1
  replace h := h.2
  refine i_VLI (μ' := MJ0_coder_7d493) (j := x0) (as := []) (st := []) rfl o1 dJ0_getBytes_840e7_1 mOKJ0_coder_7d493 ⟨mlJ0_335, imJ0_coder_7d493, seJ0_coder_7d493⟩ (by decide) (Nat.le_of_ble_eq_true rfl) rfl (Nat.le_of_ble_eq_true rfl) rfl (sJ0_coder_7d493_K o2 ?_)
  refine e_iload_n 3 dJ0_getBytes_840e7_4 rfl ?_
  refine e_icmp_ne (tgt := 28) dJ0_getBytes_840e7_5 (by decide) (fun c => ?_) (fun c => ?_)
  · replace h := h.1 c
    refine e_aload_n 0 dJ0_getBytes_840e7_28 rfl ?_
    refine e_getLv o1 dJ0_getBytes_840e7_29 fkJ0_9 ?_
    refine e_iconst dJ0_getBytes_840e7_32 (by unfold InR; decide) ?_
    refine e_aload_n 1 dJ0_getBytes_840e7_33 rfl ?_
    refine e_iload_n 2 dJ0_getBytes_840e7_34 rfl ?_
    refine e_aload_n 0 dJ0_getBytes_840e7_35 rfl ?_
    refine e_getLv o1 dJ0_getBytes_840e7_36 fkJ0_9 ?_
    refine e_lenL o1 dJ0_getBytes_840e7_39 ?_
    exact h.elim
  · replace h := h.2 c
    refine e_aload_n 0 dJ0_getBytes_840e7_8 rfl ?_
    refine e_getLv o1 dJ0_getBytes_840e7_9 fkJ0_9 ?_
    refine e_iconst dJ0_getBytes_840e7_12 (by unfold InR; decide) ?_
    refine e_aload_n 1 dJ0_getBytes_840e7_13 rfl ?_
    refine e_iload_n 2 dJ0_getBytes_840e7_14 rfl ?_
    refine e_iload_n 3 dJ0_getBytes_840e7_15 rfl ?_
    refine e_ishl dJ0_getBytes_840e7_16 ?_
    refine e_aload_n 0 dJ0_getBytes_840e7_17 rfl ?_
    refine e_getLv o1 dJ0_getBytes_840e7_18 fkJ0_9 ?_
    refine e_lenL o1 dJ0_getBytes_840e7_21 ?_
    have o3 := h.1
    replace h := h.2
    have o4 := h.1
    replace h := h.2
    have o5 := h.1
    replace h := h.2
    have o6 := h.1
    replace h := h.2
    have o7 := h.1
    replace h := h.2
    have o8 := h.1
    replace h := h.2
    obtain ⟨I22, eI22⟩ : ∃ z : MI, z = up1 I x1 (va_cpy (litF x0) (I x1) (Int.toNat 0) (Int.toNat (ishl x2 x3)) (Int.toNat (litLen.getD x0 0 : Int))) := ⟨_, rfl⟩
    replace h := h I22 eI22
    refine e_copyL o1 dJ0_getBytes_840e7_22 ⟨maJ0_212, acp⟩ (by decide) (Nat.le_of_ble_eq_true rfl) o3 o4 o5 o6 o7 o8 (eqI eI22 ?_)
    refine e_goto (tgt := 43) dJ0_getBytes_840e7_25 (by decide) ?_
    exact e_return dJ0_getBytes_840e7_43 rfl ⟨rfl, h⟩

set_option maxRecDepth 100000 in
set_option maxHeartbeats 4000000 in
theorem bJ5_putStringAt_47b60 {G : Gl} {S : Sh} {I : MI} {R : MR} {Q : Sh → MI → MR → Prop} {x0 : Nat} {x1 : Int} {x2 : Nat} (h : (sT S x0 = 11 ∧ (CV G MJ5_inflateIfNeededFor_a7421 [vR x0, vO (x2 + 1)] S I R (fun S2 I2 R2 => (sT S2 x0 = 11 ∧ (x2 < 6 ∧ (CV G MJ0_getBytes_840e7 [vO (x2 + 1), vR (R2 x0 0), vI x1, vI (I2 x0 1)] S2 I2 R2 (fun S15 I15 R15 => Q S15 I15 R15)))))))) : CV G MJ5_putStringAt_47b60 [vR x0, vI x1, vO (x2 + 1)] S I R Q := by
  show E G MJ5_putStringAt_47b60 0 [(0, vR x0), (1, vI x1), (2, vO (x2 + 1))] [] S I R (qV Q)
  refine e_aload_n 0 dJ5_putStringAt_47b60_0 rfl ?_
  refine e_aload_n 2 dJ5_putStringAt_47b60_1 rfl ?_
  have o1 := h.1
  replace h := h.2
  refine i_VUV (μ' := MJ5_inflateIfNeededFor_a7421) (r := x0) (as := [vO (x2 + 1)]) (st := []) rfl dJ5_putStringAt_47b60_2 mOKJ5_inflateIfNeededFor_a7421 rfl ⟨mlJ5_397, imJ5_inflateIfNeededFor_a7421, suJ5_inflateIfNeededFor_a7421⟩ (by decide) (Nat.le_of_ble_eq_true rfl) rfl (Nat.le_of_ble_eq_true rfl) o1 (CV.mono h ?_)
  clear h
  intro S2 I2 R2 h
  refine e_aload_n 2 dJ5_putStringAt_47b60_5 rfl ?_
  refine e_aload_n 0 dJ5_putStringAt_47b60_6 rfl ?_
  have o2 := h.1
  replace h := h.2
  refine e_getR dJ5_putStringAt_47b60_7 flJ5_15 rfl o2 ?_
  refine e_iload_n 1 dJ5_putStringAt_47b60_10 rfl ?_
  refine e_aload_n 0 dJ5_putStringAt_47b60_11 rfl ?_
  refine e_getI dJ5_putStringAt_47b60_12 flJ5_22 rfl o2 ?_
  have o3 := h.1
  replace h := h.2
  refine i_VLV (μ' := MJ0_getBytes_840e7) (j := x2) (as := [vR (R2 x0 0), vI x1, vI (I2 x0 1)]) (st := []) rfl o3 dJ5_putStringAt_47b60_15 mOKJ0_getBytes_840e7 ⟨mlJ5_399, imJ0_getBytes_840e7, seJ0_getBytes_840e7⟩ (by decide) (Nat.le_of_ble_eq_true rfl) rfl (Nat.le_of_ble_eq_true rfl) rfl (CV.mono h ?_)
  clear h
  intro S15 I15 R15 h
  exact e_return dJ5_putStringAt_47b60_18 rfl ⟨rfl, h⟩

def vJ0_length_8abf5 (S : Sh) (I : MI) (R : MR) (x0 : Nat) : Int := (ishr (sL S (R x0 0) : Int) (vJ0_coder_7d493 I x0))
def pJ0_length_8abf5 (S : Sh) (I : MI) (R : MR) (x0 : Nat) : Prop := (sT S x0 = 10 ∧ (21 ≤ sT S (R x0 0) ∧ ((pJ0_coder_7d493 S I x0) ∧ True)))
set_option maxRecDepth 100000 in
set_option maxHeartbeats 4000000 in
theorem sJ0_length_8abf5 {G : Gl} {S : Sh} {I : MI} {R : MR} {Q : Sh → MI → MR → Int → Prop} {x0 : Nat} (hp : pJ0_length_8abf5 S I R x0) (hq : Q S I R (vJ0_length_8abf5 S I R x0)) : CI G MJ0_length_8abf5 [vR x0] S I R Q := by
  show E G MJ0_length_8abf5 0 [(0, vR x0)] [] S I R (qI Q)
  unfold vJ0_length_8abf5 at hq
  unfold pJ0_length_8abf5 at hp
  refine e_aload_n 0 dJ0_length_8abf5_0 rfl ?_
  have o1 := hp.1
  replace hp := hp.2
  refine e_getR dJ0_length_8abf5_1 flJ0_9 rfl o1 ?_
  have o2 := hp.1
  replace hp := hp.2
  refine e_alen dJ0_length_8abf5_4 o2 ?_
  refine e_aload_n 0 dJ0_length_8abf5_5 rfl ?_
  have o3 := hp.1
  replace hp := hp.2
  refine i_VI (μ' := MJ0_coder_7d493) (ci := 9) (r := x0) (as := []) (st := [vI (sL S (R x0 0) : Int)]) rfl dJ0_length_8abf5_6 mOKJ0_coder_7d493 ⟨mlJ0_335, imJ0_coder_7d493, seJ0_coder_7d493⟩ (by decide) (Nat.le_of_ble_eq_true rfl) rfl (Nat.le_of_ble_eq_true rfl) ⟨by decide, rfl⟩ o1 (sJ0_coder_7d493 o3 ?_)
  refine e_ishr dJ0_length_8abf5_9 ?_
  exact e_ireturn dJ0_length_8abf5_10 rfl ⟨_, rfl, hq⟩
def vJ0_length_8abf5_K  (x0 : Nat) : Int := (ishr (litLen.getD x0 0 : Int) (vJ0_coder_7d493_K x0))
def pJ0_length_8abf5_K  (x0 : Nat) : Prop := (x0 < 6 ∧ ((pJ0_coder_7d493_K x0) ∧ True))
set_option maxRecDepth 100000 in
set_option maxHeartbeats 4000000 in
theorem sJ0_length_8abf5_K {G : Gl} {S : Sh} {I : MI} {R : MR} {Q : Sh → MI → MR → Int → Prop} {x0 : Nat} (hp : pJ0_length_8abf5_K x0) (hq : Q S I R (vJ0_length_8abf5_K x0)) : CI G MJ0_length_8abf5 [vO (x0 + 1)] S I R Q := by
  show E G MJ0_length_8abf5 0 [(0, vO (x0 + 1))] [] S I R (qI Q)
  unfold vJ0_length_8abf5_K at hq
  unfold pJ0_length_8abf5_K at hp
  refine e_aload_n 0 dJ0_length_8abf5_0 rfl ?_
  have o1 := hp.1
  replace hp := hp.2
  refine e_getLv o1 dJ0_length_8abf5_1 fkJ0_9 ?_
  refine e_lenL o1 dJ0_length_8abf5_4 ?_
  refine e_aload_n 0 dJ0_length_8abf5_5 rfl ?_
  have o2 := hp.1
  replace hp := hp.2
  refine i_VLI (μ' := MJ0_coder_7d493) (j := x0) (as := []) (st := [vI (litLen.getD x0 0 : Int)]) rfl o1 dJ0_length_8abf5_6 mOKJ0_coder_7d493 ⟨mlJ0_335, imJ0_coder_7d493, seJ0_coder_7d493⟩ (by decide) (Nat.le_of_ble_eq_true rfl) rfl (Nat.le_of_ble_eq_true rfl) rfl (sJ0_coder_7d493_K o2 ?_)
  refine e_ishr dJ0_length_8abf5_9 ?_
  exact e_ireturn dJ0_length_8abf5_10 rfl ⟨_, rfl, hq⟩

set_option maxRecDepth 100000 in
set_option maxHeartbeats 4000000 in
theorem bJ5_append_cf1ce {G : Gl} {S : Sh} {I : MI} {R : MR} {Q : Sh → MI → MR → Nat → Prop} {x0 : Nat} {x1 : Nat} (h : (x1 < 6 ∧ ((pJ0_length_8abf5_K x1) ∧ (sT S x0 = 11 ∧ (CV G MJ5_ensureCapacityInternal_d00df [vR x0, vI (w32 ((I x0 3) + (vJ0_length_8abf5_K x1)))] S I R (fun S21 I21 R21 => (sT S21 x0 = 11 ∧ (CV G MJ5_putStringAt_47b60 [vR x0, vI (I21 x0 3), vO (x1 + 1)] S21 I21 R21 (fun S30 I30 R30 => (sT S30 x0 = 11 ∧ (∀ I40, I40 = up2 I30 x0 3 (w32 ((I30 x0 3) + (vJ0_length_8abf5_K x1))) → Q S30 I40 R30 x0))))))))))) : CR G MJ5_append_cf1ce [vR x0, vO (x1 + 1)] S I R Q := by
  show E G MJ5_append_cf1ce 0 [(0, vR x0), (1, vO (x1 + 1))] [] S I R (qR Q)
  refine e_aload_n 1 dJ5_append_cf1ce_0 rfl ?_
  have o1 := h.1
  replace h := h.2
  refine e_ifnonnullO (tgt := 9) o1 dJ5_append_cf1ce_1 (by decide) ?_
  refine e_aload_n 1 dJ5_append_cf1ce_9 rfl ?_
  have o2 := h.1
  replace h := h.2
  refine i_VLI (μ' := MJ0_length_8abf5) (j := x1) (as := []) (st := []) rfl o1 dJ5_append_cf1ce_10 mOKJ0_length_8abf5 ⟨mlJ5_32, imJ0_length_8abf5, seJ0_length_8abf5⟩ (by decide) (Nat.le_of_ble_eq_true rfl) rfl (Nat.le_of_ble_eq_true rfl) rfl (sJ0_length_8abf5_K o2 ?_)
  refine e_istore_n (ls2 := [(2, vI (vJ0_length_8abf5_K x1)), (0, vR x0), (1, vO (x1 + 1))]) dJ5_append_cf1ce_13 (by decide) rfl ?_
  refine e_aload_n 1 dJ5_append_cf1ce_14 rfl ?_
  refine e_aload_n 1 dJ5_append_cf1ce_15 rfl ?_
  have o3 := h.1
  replace h := h.2
  refine e_getI dJ5_append_cf1ce_16 flJ5_79 rfl o3 ?_
  refine e_iload_n 0 dJ5_append_cf1ce_19 rfl ?_
  refine e_iadd dJ5_append_cf1ce_20 ?_
  refine i_VUV (μ' := MJ5_ensureCapacityInternal_d00df) (r := x0) (as := [vI (w32 ((I x0 3) + (vJ0_length_8abf5_K x1)))]) (st := []) rfl dJ5_append_cf1ce_21 mOKJ5_ensureCapacityInternal_d00df rfl ⟨mlJ5_100, imJ5_ensureCapacityInternal_d00df, suJ5_ensureCapacityInternal_d00df⟩ (by decide) (Nat.le_of_ble_eq_true rfl) rfl (Nat.le_of_ble_eq_true rfl) o3 (CV.mono h ?_)
  clear h
  intro S21 I21 R21 h
  refine e_aload_n 1 dJ5_append_cf1ce_24 rfl ?_
  refine e_aload_n 1 dJ5_append_cf1ce_25 rfl ?_
  have o4 := h.1
  replace h := h.2
  refine e_getI dJ5_append_cf1ce_26 flJ5_79 rfl o4 ?_
  refine e_aload_n 2 dJ5_append_cf1ce_29 rfl ?_
  refine i_VUV (μ' := MJ5_putStringAt_47b60) (r := x0) (as := [vI (I21 x0 3), vO (x1 + 1)]) (st := []) rfl dJ5_append_cf1ce_30 mOKJ5_putStringAt_47b60 rfl ⟨mlJ5_208, imJ5_putStringAt_47b60, suJ5_putStringAt_47b60⟩ (by decide) (Nat.le_of_ble_eq_true rfl) rfl (Nat.le_of_ble_eq_true rfl) o4 (CV.mono h ?_)
  clear h
  intro S30 I30 R30 h
  refine e_aload_n 1 dJ5_append_cf1ce_33 rfl ?_
  refine e_dup dJ5_append_cf1ce_34 rfl ?_
  have o5 := h.1
  replace h := h.2
  refine e_getI dJ5_append_cf1ce_35 flJ5_79 rfl o5 ?_
  refine e_iload_n 0 dJ5_append_cf1ce_38 rfl ?_
  refine e_iadd dJ5_append_cf1ce_39 ?_
  obtain ⟨I40, eI40⟩ : ∃ z : MI, z = up2 I30 x0 3 (w32 ((I30 x0 3) + (vJ0_length_8abf5_K x1))) := ⟨_, rfl⟩
  replace h := h I40 eI40
  refine e_putI dJ5_append_cf1ce_40 flJ5_79 rfl (Or.inl rfl) o5 (eqI eI40 ?_)
  refine e_aload_n 1 dJ5_append_cf1ce_43 rfl ?_
  exact e_areturn (C := "") dJ5_append_cf1ce_44 ⟨_, rfl⟩ ⟨_, rfl, h⟩

def vJ5_isLatin1_aae02 (I : MI) (x0 : Nat) : Int := (if (I x0 1) ≠ 0 then 0 else 1)
def pJ5_isLatin1_aae02 (S : Sh) (x0 : Nat) : Prop := (sT S x0 = 11 ∧ True)
set_option maxRecDepth 100000 in
set_option maxHeartbeats 4000000 in
theorem sJ5_isLatin1_aae02 {G : Gl} {S : Sh} {I : MI} {R : MR} {Q : Sh → MI → MR → Int → Prop} {x0 : Nat} (hp : pJ5_isLatin1_aae02 S x0) (hq : Q S I R (vJ5_isLatin1_aae02 I x0)) : CI G MJ5_isLatin1_aae02 [vR x0] S I R Q := by
  show E G MJ5_isLatin1_aae02 0 [(0, vR x0)] [] S I R (qI Q)
  unfold vJ5_isLatin1_aae02 at hq
  unfold pJ5_isLatin1_aae02 at hp
  refine e_getsC dJ5_isLatin1_aae02_0 fsJ5_18 ?_
  refine e_if_eq (tgt := 17) dJ5_isLatin1_aae02_3 (by decide) (fun c => absurd c (by decide)) (fun _ => ?_)
  refine e_aload_n 0 dJ5_isLatin1_aae02_6 rfl ?_
  have o1 := hp.1
  replace hp := hp.2
  refine e_getI dJ5_isLatin1_aae02_7 flJ5_22 rfl o1 ?_
  refine e_if_ne (tgt := 17) dJ5_isLatin1_aae02_10 (by decide) (fun c => ?_) (fun c => ?_)
  · rw [if_pos c] at hq
    refine e_iconst dJ5_isLatin1_aae02_17 (by unfold InR; decide) ?_
    exact e_zreturn dJ5_isLatin1_aae02_18 rfl (by decide) ⟨_, rfl, hq⟩
  · rw [if_neg c] at hq
    refine e_iconst dJ5_isLatin1_aae02_13 (by unfold InR; decide) ?_
    refine e_goto (tgt := 18) dJ5_isLatin1_aae02_14 (by decide) ?_
    exact e_zreturn dJ5_isLatin1_aae02_18 rfl (by decide) ⟨_, rfl, hq⟩

def vJ1_canEncode_fc78d  (x0 : Int) : Int := (if 255 < x0 then 0 else 1)
set_option maxRecDepth 100000 in
set_option maxHeartbeats 4000000 in
theorem sJ1_canEncode_fc78d {G : Gl} {S : Sh} {I : MI} {R : MR} {Q : Sh → MI → MR → Int → Prop} {x0 : Int} (hq : Q S I R (vJ1_canEncode_fc78d x0)) : CI G MJ1_canEncode_fc78d [vI x0] S I R Q := by
  show E G MJ1_canEncode_fc78d 0 [(0, vI x0)] [] S I R (qI Q)
  unfold vJ1_canEncode_fc78d at hq
  refine e_iload_n 0 dJ1_canEncode_fc78d_0 rfl ?_
  refine e_sipush (x := 255) dJ1_canEncode_fc78d_1 ⟨by decide +kernel, by unfold InR; decide⟩ ?_
  refine e_icmp_gt (tgt := 11) dJ1_canEncode_fc78d_4 (by decide) (fun c => ?_) (fun c => ?_)
  · rw [if_pos c] at hq
    refine e_iconst dJ1_canEncode_fc78d_11 (by unfold InR; decide) ?_
    exact e_zreturn dJ1_canEncode_fc78d_12 rfl (by decide) ⟨_, rfl, hq⟩
  · rw [if_neg c] at hq
    refine e_iconst dJ1_canEncode_fc78d_7 (by unfold InR; decide) ?_
    refine e_goto (tgt := 12) dJ1_canEncode_fc78d_8 (by decide) ?_
    exact e_zreturn dJ1_canEncode_fc78d_12 rfl (by decide) ⟨_, rfl, hq⟩

def LJ5_append_3fe6f_56 (G : Gl) (x0 : Nat) (x1 : Int) (S : Sh) (I : MI) (R : MR) (Q : Sh → MI → MR → Nat → Prop) : Prop := E G MJ5_append_3fe6f 56 [(0, vR x0), (1, vI x1)] [] S I R (qR Q)
set_option maxRecDepth 100000 in
set_option maxHeartbeats 4000000 in
theorem bJ5_append_3fe6f {G : Gl} {S : Sh} {I : MI} {R : MR} {Q : Sh → MI → MR → Nat → Prop} {x0 : Nat} {x1 : Int} (h : (sT S x0 = 11 ∧ (CV G MJ5_ensureCapacityInternal_d00df [vR x0, vI (w32 ((I x0 3) + 1))] S I R (fun S7 I7 R7 => (sT S7 x0 = 11 ∧ ((pJ5_isLatin1_aae02 S7 x0) ∧ (((vJ5_isLatin1_aae02 I7 x0) = 0 → (((vJ5_isLatin1_aae02 I7 x0) = 0 → LJ5_append_3fe6f_56 G x0 x1 S7 I7 R7 Q) ∧ (¬ ((vJ5_isLatin1_aae02 I7 x0) = 0) → False))) ∧ (¬ ((vJ5_isLatin1_aae02 I7 x0) = 0) → (((vJ1_canEncode_fc78d x1) = 0 → (((vJ5_isLatin1_aae02 I7 x0) = 0 → LJ5_append_3fe6f_56 G x0 x1 S7 I7 R7 Q) ∧ (¬ ((vJ5_isLatin1_aae02 I7 x0) = 0) → False))) ∧ (¬ ((vJ1_canEncode_fc78d x1) = 0) → (∀ I36, I36 = up2 I7 x0 3 (w32 ((I7 x0 3) + 1)) → (sT S7 (R7 x0 0) = 22 ∧ (((0 : Int) ≤ (I7 x0 3) ∧ (I7 x0 3) < (sL S7 (R7 x0 0) : Int)) ∧ ((-128 ≤ (i2b x1) ∧ (i2b x1) < 128) ∧ (∀ I41, I41 = up2 I36 (R7 x0 0) (Int.toNat (I7 x0 3)) (i2b x1) → Q S7 I41 R7 x0))))))))))))))) : CR G MJ5_append_3fe6f [vR x0, vI x1] S I R Q := by
  show E G MJ5_append_3fe6f 0 [(0, vR x0), (1, vI x1)] [] S I R (qR Q)
  refine e_aload_n 0 dJ5_append_3fe6f_0 rfl ?_
  refine e_aload_n 0 dJ5_append_3fe6f_1 rfl ?_
  have o1 := h.1
  replace h := h.2
  refine e_getI dJ5_append_3fe6f_2 flJ5_79 rfl o1 ?_
  refine e_iconst dJ5_append_3fe6f_5 (by unfold InR; decide) ?_
  refine e_iadd dJ5_append_3fe6f_6 ?_
  refine i_VUV (μ' := MJ5_ensureCapacityInternal_d00df) (r := x0) (as := [vI (w32 ((I x0 3) + 1))]) (st := []) rfl dJ5_append_3fe6f_7 mOKJ5_ensureCapacityInternal_d00df rfl ⟨mlJ5_100, imJ5_ensureCapacityInternal_d00df, suJ5_ensureCapacityInternal_d00df⟩ (by decide) (Nat.le_of_ble_eq_true rfl) rfl (Nat.le_of_ble_eq_true rfl) o1 (CV.mono h ?_)
  clear h
  intro S7 I7 R7 h
  refine e_aload_n 0 dJ5_append_3fe6f_10 rfl ?_
  have o2 := h.1
  replace h := h.2
  have o3 := h.1
  replace h := h.2
  refine i_VUI (μ' := MJ5_isLatin1_aae02) (r := x0) (as := []) (st := []) rfl dJ5_append_3fe6f_11 mOKJ5_isLatin1_aae02 rfl ⟨mlJ5_83, imJ5_isLatin1_aae02, suJ5_isLatin1_aae02⟩ (by decide) (Nat.le_of_ble_eq_true rfl) rfl (Nat.le_of_ble_eq_true rfl) o2 (sJ5_isLatin1_aae02 o3 ?_)
  refine e_if_eq (tgt := 45) dJ5_append_3fe6f_14 (by decide) (fun c => ?_) (fun c => ?_)
  · replace h := h.1 c
    refine e_aload_n 0 dJ5_append_3fe6f_45 rfl ?_
    refine i_VUI (μ' := MJ5_isLatin1_aae02) (r := x0) (as := []) (st := []) rfl dJ5_append_3fe6f_46 mOKJ5_isLatin1_aae02 rfl ⟨mlJ5_83, imJ5_isLatin1_aae02, suJ5_isLatin1_aae02⟩ (by decide) (Nat.le_of_ble_eq_true rfl) rfl (Nat.le_of_ble_eq_true rfl) o2 (sJ5_isLatin1_aae02 o3 ?_)
    refine e_if_eq (tgt := 56) dJ5_append_3fe6f_49 (by decide) (fun c => ?_) (fun c => ?_)
    · replace h := h.1 c
      exact e_sub (ls2 := [(0, vR x0), (1, vI x1)]) [0, 1] rfl h
    · replace h := h.2 c
      refine e_aload_n 0 dJ5_append_3fe6f_52 rfl ?_
      exact h.elim
  · replace h := h.2 c
    refine e_iload_n 1 dJ5_append_3fe6f_17 rfl ?_
    refine i_SI (μ' := MJ1_canEncode_fc78d) (as := [vI x1]) (st := []) rfl dJ5_append_3fe6f_18 mOKJ1_canEncode_fc78d ⟨mlJ5_191, stJ1_canEncode_fc78d⟩ (by decide) (Nat.le_of_ble_eq_true rfl) rfl (Nat.le_of_ble_eq_true rfl) (sJ1_canEncode_fc78d ?_)
    refine e_if_eq (tgt := 45) dJ5_append_3fe6f_21 (by decide) (fun c => ?_) (fun c => ?_)
    · replace h := h.1 c
      refine e_aload_n 0 dJ5_append_3fe6f_45 rfl ?_
      refine i_VUI (μ' := MJ5_isLatin1_aae02) (r := x0) (as := []) (st := []) rfl dJ5_append_3fe6f_46 mOKJ5_isLatin1_aae02 rfl ⟨mlJ5_83, imJ5_isLatin1_aae02, suJ5_isLatin1_aae02⟩ (by decide) (Nat.le_of_ble_eq_true rfl) rfl (Nat.le_of_ble_eq_true rfl) o2 (sJ5_isLatin1_aae02 o3 ?_)
      refine e_if_eq (tgt := 56) dJ5_append_3fe6f_49 (by decide) (fun c => ?_) (fun c => ?_)
      · replace h := h.1 c
        exact e_sub (ls2 := [(0, vR x0), (1, vI x1)]) [0, 1] rfl h
      · replace h := h.2 c
        refine e_aload_n 0 dJ5_append_3fe6f_52 rfl ?_
        exact h.elim
    · replace h := h.2 c
      refine e_aload_n 0 dJ5_append_3fe6f_24 rfl ?_
      refine e_getR dJ5_append_3fe6f_25 flJ5_15 rfl o2 ?_
      refine e_aload_n 0 dJ5_append_3fe6f_28 rfl ?_
      refine e_dup dJ5_append_3fe6f_29 rfl ?_
      refine e_getI dJ5_append_3fe6f_30 flJ5_79 rfl o2 ?_
      refine e_dup_x1 dJ5_append_3fe6f_33 rfl rfl ?_
      refine e_iconst dJ5_append_3fe6f_34 (by unfold InR; decide) ?_
      refine e_iadd dJ5_append_3fe6f_35 ?_
      obtain ⟨I36, eI36⟩ : ∃ z : MI, z = up2 I7 x0 3 (w32 ((I7 x0 3) + 1)) := ⟨_, rfl⟩
      replace h := h I36 eI36
      refine e_putI dJ5_append_3fe6f_36 flJ5_79 rfl (Or.inl rfl) o2 (eqI eI36 ?_)
      refine e_iload_n 1 dJ5_append_3fe6f_39 rfl ?_
      refine e_i2b dJ5_append_3fe6f_40 ?_
      have o4 := h.1
      replace h := h.2
      have o5 := h.1
      replace h := h.2
      have o6 := h.1
      replace h := h.2
      obtain ⟨I41, eI41⟩ : ∃ z : MI, z = up2 I36 (R7 x0 0) (Int.toNat (I7 x0 3)) (i2b x1) := ⟨_, rfl⟩
      replace h := h I41 eI41
      refine e_bast dJ5_append_3fe6f_41 o4 o5 o6 (eqI eI41 ?_)
      refine e_goto (tgt := 75) dJ5_append_3fe6f_42 (by decide) ?_
      refine e_aload_n 0 dJ5_append_3fe6f_75 rfl ?_
      exact e_areturn (C := "") dJ5_append_3fe6f_76 ⟨_, rfl⟩ ⟨_, rfl, h⟩
set_option maxRecDepth 100000 in
set_option maxHeartbeats 4000000 in
theorem bJ5_append_3fe6f_56 {G : Gl} {S : Sh} {I : MI} {R : MR} {Q : Sh → MI → MR → Nat → Prop} {x0 : Nat} {x1 : Int} (h : (sT S x0 = 11 ∧ (∀ I68, I68 = up2 I x0 3 (w32 ((I x0 3) + 1)) → False))) : LJ5_append_3fe6f_56 G x0 x1 S I R Q := by
  show E G MJ5_append_3fe6f 56 [(0, vR x0), (1, vI x1)] [] S I R (qR Q)
  refine e_aload_n 0 dJ5_append_3fe6f_56 rfl ?_
  have o7 := h.1
  replace h := h.2
  refine e_getR dJ5_append_3fe6f_57 flJ5_15 rfl o7 ?_
  refine e_aload_n 0 dJ5_append_3fe6f_60 rfl ?_
  refine e_dup dJ5_append_3fe6f_61 rfl ?_
  refine e_getI dJ5_append_3fe6f_62 flJ5_79 rfl o7 ?_
  refine e_dup_x1 dJ5_append_3fe6f_65 rfl rfl ?_
  refine e_iconst dJ5_append_3fe6f_66 (by unfold InR; decide) ?_
  refine e_iadd dJ5_append_3fe6f_67 ?_
  obtain ⟨I68, eI68⟩ : ∃ z : MI, z = up2 I x0 3 (w32 ((I x0 3) + 1)) := ⟨_, rfl⟩
  replace h := h I68 eI68
  refine e_putI dJ5_append_3fe6f_68 flJ5_79 rfl (Or.inl rfl) o7 (eqI eI68 ?_)
  refine e_iload_n 1 dJ5_append_3fe6f_71 rfl ?_
  exact h.elim

def LJ6_getChars_ba4f3_22 (G : Gl) (x0 : Int) (x2 : Nat) (x5 : Int) (x6 : Int) (S : Sh) (I : MI) (R : MR) (Q : Sh → MI → MR → Int → Prop) : Prop := E G MJ6_getChars_ba4f3 22 [(0, vI x0), (2, vR x2), (5, vI x5), (6, vI x6)] [] S I R (qI Q)
set_option maxRecDepth 100000 in
set_option maxHeartbeats 4000000 in
theorem bJ6_getChars_ba4f3 {G : Gl} {S : Sh} {I : MI} {R : MR} {Q : Sh → MI → MR → Int → Prop} {x0 : Int} {x1 : Int} {x2 : Nat} (h : ((0 ≤ x0 → LJ6_getChars_ba4f3_22 G (w32 (-x0)) x2 x1 0 S I R Q) ∧ (¬ (0 ≤ x0) → LJ6_getChars_ba4f3_22 G x0 x2 x1 1 S I R Q))) : CI G MJ6_getChars_ba4f3 [vI x0, vI x1, vR x2] S I R Q := by
  show E G MJ6_getChars_ba4f3 0 [(0, vI x0), (1, vI x1), (2, vR x2)] [] S I R (qI Q)
  refine e_iload_n 1 dJ6_getChars_ba4f3_0 rfl ?_
  refine e_istore (ls2 := [(5, vI x1), (0, vI x0), (1, vI x1), (2, vR x2)]) dJ6_getChars_ba4f3_1 (by decide) rfl ?_
  refine e_iload_n 1 dJ6_getChars_ba4f3_3 rfl ?_
  refine e_if_ge (tgt := 11) dJ6_getChars_ba4f3_4 (by decide) (fun c => ?_) (fun c => ?_)
  · replace h := h.1 c
    refine e_iconst dJ6_getChars_ba4f3_11 (by unfold InR; decide) ?_
    refine e_istore (ls2 := [(6, vI 0), (5, vI x1), (0, vI x0), (1, vI x1), (2, vR x2)]) dJ6_getChars_ba4f3_12 (by decide) rfl ?_
    refine e_iload 0 dJ6_getChars_ba4f3_14 rfl ?_
    refine e_if_ne (tgt := 22) dJ6_getChars_ba4f3_16 (by decide) (fun c => absurd c (by decide)) (fun _ => ?_)
    refine e_iload_n 2 dJ6_getChars_ba4f3_19 rfl ?_
    refine e_ineg dJ6_getChars_ba4f3_20 ?_
    refine e_istore_n (ls2 := [(0, vI (w32 (-x0))), (6, vI 0), (5, vI x1), (1, vI x1), (2, vR x2)]) dJ6_getChars_ba4f3_21 (by decide) rfl ?_
    exact e_sub (ls2 := [(0, vI (w32 (-x0))), (2, vR x2), (5, vI x1), (6, vI 0)]) [0, 4, 2, 1] rfl h
  · replace h := h.2 c
    refine e_iconst dJ6_getChars_ba4f3_7 (by unfold InR; decide) ?_
    refine e_goto (tgt := 12) dJ6_getChars_ba4f3_8 (by decide) ?_
    refine e_istore (ls2 := [(6, vI 1), (5, vI x1), (0, vI x0), (1, vI x1), (2, vR x2)]) dJ6_getChars_ba4f3_12 (by decide) rfl ?_
    refine e_iload 0 dJ6_getChars_ba4f3_14 rfl ?_
    refine e_if_ne (tgt := 22) dJ6_getChars_ba4f3_16 (by decide) (fun _ => ?_) (fun c => absurd (by decide) c)
    exact e_sub (ls2 := [(0, vI x0), (2, vR x2), (5, vI x1), (6, vI 1)]) [2, 4, 1, 0] rfl h
set_option maxRecDepth 100000 in
set_option maxHeartbeats 4000000 in
theorem bJ6_getChars_ba4f3_22 {G : Gl} {S : Sh} {I : MI} {R : MR} {Q : Sh → MI → MR → Int → Prop} {x0 : Int} {x2 : Nat} {x5 : Int} {x6 : Int} (h : (((-100) < x0 → (((0 : Int) ≤ (w32 (-x0)) ∧ (w32 (-x0)) < 100) ∧ (sT S x2 = 22 ∧ (((0 : Int) ≤ (w32 (x5 + (-1))) ∧ (w32 (x5 + (-1))) < (sL S x2 : Int)) ∧ ((-128 ≤ (48 + (w32 (-x0)) % 10) ∧ (48 + (w32 (-x0)) % 10) < 128) ∧ (∀ I84, I84 = up2 I x2 (Int.toNat (w32 (x5 + (-1)))) (48 + (w32 (-x0)) % 10) → (((-9) ≤ x0 → ((x6 = 0 → Q S I84 R (w32 (x5 + (-1)))) ∧ (¬ (x6 = 0) → (((0 : Int) ≤ (w32 ((w32 (x5 + (-1))) + (-1))) ∧ (w32 ((w32 (x5 + (-1))) + (-1))) < (sL S x2 : Int)) ∧ ((-128 ≤ 45 ∧ 45 < 128) ∧ (∀ I117, I117 = up2 I84 x2 (Int.toNat (w32 ((w32 (x5 + (-1))) + (-1)))) 45 → Q S I117 R (w32 ((w32 (x5 + (-1))) + (-1))))))))) ∧ (¬ ((-9) ≤ x0) → False)))))))) ∧ (¬ ((-100) < x0) → (((0 : Int) ≤ (w32 ((w32 ((idiv x0 100) * 100)) - x0)) ∧ (w32 ((w32 ((idiv x0 100) * 100)) - x0)) < 100) ∧ (sT S x2 = 22 ∧ (((0 : Int) ≤ (w32 (x5 + (-1))) ∧ (w32 (x5 + (-1))) < (sL S x2 : Int)) ∧ ((-128 ≤ (48 + (w32 ((w32 ((idiv x0 100) * 100)) - x0)) % 10) ∧ (48 + (w32 ((w32 ((idiv x0 100) * 100)) - x0)) % 10) < 128) ∧ (∀ I55, I55 = up2 I x2 (Int.toNat (w32 (x5 + (-1)))) (48 + (w32 ((w32 ((idiv x0 100) * 100)) - x0)) % 10) → False)))))))) : LJ6_getChars_ba4f3_22 G x0 x2 x5 x6 S I R Q := by
  show E G MJ6_getChars_ba4f3 22 [(0, vI x0), (2, vR x2), (5, vI x5), (6, vI x6)] [] S I R (qI Q)
  refine e_iload_n 0 dJ6_getChars_ba4f3_22 rfl ?_
  refine e_bipush (x := (-100)) dJ6_getChars_ba4f3_23 ⟨by decide +kernel, by unfold InR; decide⟩ ?_
  refine e_icmp_gt (tgt := 72) dJ6_getChars_ba4f3_25 (by decide) (fun c => ?_) (fun c => ?_)
  · replace h := h.1 c
    refine e_aload_n 1 dJ6_getChars_ba4f3_72 rfl ?_
    refine e_iinc (ls2 := [(5, vI (w32 (x5 + (-1)))), (0, vI x0), (2, vR x2), (6, vI x6)]) 2 dJ6_getChars_ba4f3_73 rfl (by decide) rfl ?_
    refine e_iload 0 dJ6_getChars_ba4f3_76 rfl ?_
    refine e_getsD dJ6_getChars_ba4f3_78 fsJ6_83 ?_
    refine e_iload_n 1 dJ6_getChars_ba4f3_81 rfl ?_
    refine e_ineg dJ6_getChars_ba4f3_82 ?_
    have o1 := h.1
    replace h := h.2
    refine e_baldD dJ6_getChars_ba4f3_83 o1 ?_
    have o2 := h.1
    replace h := h.2
    have o3 := h.1
    replace h := h.2
    have o4 := h.1
    replace h := h.2
    obtain ⟨I84, eI84⟩ : ∃ z : MI, z = up2 I x2 (Int.toNat (w32 (x5 + (-1)))) (48 + (w32 (-x0)) % 10) := ⟨_, rfl⟩
    replace h := h I84 eI84
    refine e_bast dJ6_getChars_ba4f3_84 o2 o3 o4 (eqI eI84 ?_)
    refine e_iload_n 1 dJ6_getChars_ba4f3_85 rfl ?_
    refine e_bipush (x := (-9)) dJ6_getChars_ba4f3_86 ⟨by decide +kernel, by unfold InR; decide⟩ ?_
    refine e_icmp_ge (tgt := 104) dJ6_getChars_ba4f3_88 (by decide) (fun c => ?_) (fun c => ?_)
    · replace h := h.1 c
      refine e_iload 3 dJ6_getChars_ba4f3_104 rfl ?_
      refine e_if_eq (tgt := 118) dJ6_getChars_ba4f3_106 (by decide) (fun c => ?_) (fun c => ?_)
      · replace h := h.1 c
        refine e_iload 0 dJ6_getChars_ba4f3_118 rfl ?_
        exact e_ireturn dJ6_getChars_ba4f3_120 rfl ⟨_, rfl, h⟩
      · replace h := h.2 c
        refine e_aload_n 2 dJ6_getChars_ba4f3_109 rfl ?_
        refine e_iinc (ls2 := [(5, vI (w32 ((w32 (x5 + (-1))) + (-1)))), (0, vI x0), (2, vR x2), (6, vI x6)]) 0 dJ6_getChars_ba4f3_110 rfl (by decide) rfl ?_
        refine e_iload 0 dJ6_getChars_ba4f3_113 rfl ?_
        refine e_bipush (x := 45) dJ6_getChars_ba4f3_115 ⟨by decide +kernel, by unfold InR; decide⟩ ?_
        have o5 := h.1
        replace h := h.2
        have o6 := h.1
        replace h := h.2
        obtain ⟨I117, eI117⟩ : ∃ z : MI, z = up2 I84 x2 (Int.toNat (w32 ((w32 (x5 + (-1))) + (-1)))) 45 := ⟨_, rfl⟩
        replace h := h I117 eI117
        refine e_bast dJ6_getChars_ba4f3_117 o2 o5 o6 (eqI eI117 ?_)
        refine e_iload 0 dJ6_getChars_ba4f3_118 rfl ?_
        exact e_ireturn dJ6_getChars_ba4f3_120 rfl ⟨_, rfl, h⟩
    · replace h := h.2 c
      refine e_aload_n 2 dJ6_getChars_ba4f3_91 rfl ?_
      refine e_iinc (ls2 := [(5, vI (w32 ((w32 (x5 + (-1))) + (-1)))), (0, vI x0), (2, vR x2), (6, vI x6)]) 0 dJ6_getChars_ba4f3_92 rfl (by decide) rfl ?_
      refine e_iload 0 dJ6_getChars_ba4f3_95 rfl ?_
      exact h.elim
  · replace h := h.2 c
    refine e_iload_n 0 dJ6_getChars_ba4f3_28 rfl ?_
    refine e_bipush (x := 100) dJ6_getChars_ba4f3_29 ⟨by decide +kernel, by unfold InR; decide⟩ ?_
    refine e_idiv dJ6_getChars_ba4f3_31 (by decide) ?_
    refine e_istore_n (ls2 := [(3, vI (idiv x0 100)), (0, vI x0), (2, vR x2), (5, vI x5), (6, vI x6)]) dJ6_getChars_ba4f3_32 (by decide) rfl ?_
    refine e_iload_n 0 dJ6_getChars_ba4f3_33 rfl ?_
    refine e_bipush (x := 100) dJ6_getChars_ba4f3_34 ⟨by decide +kernel, by unfold InR; decide⟩ ?_
    refine e_imul dJ6_getChars_ba4f3_36 ?_
    refine e_iload_n 1 dJ6_getChars_ba4f3_37 rfl ?_
    refine e_isub dJ6_getChars_ba4f3_38 ?_
    refine e_istore (ls2 := [(4, vI (w32 ((w32 ((idiv x0 100) * 100)) - x0))), (3, vI (idiv x0 100)), (0, vI x0), (2, vR x2), (5, vI x5), (6, vI x6)]) dJ6_getChars_ba4f3_39 (by decide) rfl ?_
    refine e_iload_n 1 dJ6_getChars_ba4f3_41 rfl ?_
    refine e_istore_n (ls2 := [(0, vI (idiv x0 100)), (4, vI (w32 ((w32 ((idiv x0 100) * 100)) - x0))), (3, vI (idiv x0 100)), (2, vR x2), (5, vI x5), (6, vI x6)]) dJ6_getChars_ba4f3_42 (by decide) rfl ?_
    refine e_aload_n 3 dJ6_getChars_ba4f3_43 rfl ?_
    refine e_iinc (ls2 := [(5, vI (w32 (x5 + (-1)))), (0, vI (idiv x0 100)), (4, vI (w32 ((w32 ((idiv x0 100) * 100)) - x0))), (3, vI (idiv x0 100)), (2, vR x2), (6, vI x6)]) 4 dJ6_getChars_ba4f3_44 rfl (by decide) rfl ?_
    refine e_iload 0 dJ6_getChars_ba4f3_47 rfl ?_
    refine e_getsD dJ6_getChars_ba4f3_49 fsJ6_83 ?_
    refine e_iload 2 dJ6_getChars_ba4f3_52 rfl ?_
    have o7 := h.1
    replace h := h.2
    refine e_baldD dJ6_getChars_ba4f3_54 o7 ?_
    have o8 := h.1
    replace h := h.2
    have o9 := h.1
    replace h := h.2
    have o10 := h.1
    replace h := h.2
    obtain ⟨I55, eI55⟩ : ∃ z : MI, z = up2 I x2 (Int.toNat (w32 (x5 + (-1)))) (48 + (w32 ((w32 ((idiv x0 100) * 100)) - x0)) % 10) := ⟨_, rfl⟩
    replace h := h I55 eI55
    refine e_bast dJ6_getChars_ba4f3_55 o8 o9 o10 (eqI eI55 ?_)
    refine e_aload_n 4 dJ6_getChars_ba4f3_56 rfl ?_
    refine e_iinc (ls2 := [(5, vI (w32 ((w32 (x5 + (-1))) + (-1)))), (0, vI (idiv x0 100)), (4, vI (w32 ((w32 ((idiv x0 100) * 100)) - x0))), (3, vI (idiv x0 100)), (2, vR x2), (6, vI x6)]) 0 dJ6_getChars_ba4f3_57 rfl (by decide) rfl ?_
    refine e_iload 0 dJ6_getChars_ba4f3_60 rfl ?_
    exact h.elim

def LJ6_stringSize_0f7a4_16 (G : Gl) (x0 : Int) (x1 : Int) (x2 : Int) (x3 : Int) (S : Sh) (I : MI) (R : MR) (Q : Sh → MI → MR → Int → Prop) : Prop := E G MJ6_stringSize_0f7a4 16 [(0, vI x0), (1, vI x1), (2, vI x2), (3, vI x3)] [] S I R (qI Q)
set_option maxRecDepth 100000 in
set_option maxHeartbeats 4000000 in
theorem bJ6_stringSize_0f7a4 {G : Gl} {S : Sh} {I : MI} {R : MR} {Q : Sh → MI → MR → Int → Prop} {x0 : Int} (h : ((x0 < 0 → LJ6_stringSize_0f7a4_16 G x0 1 (-10) 1 S I R Q) ∧ (¬ (x0 < 0) → LJ6_stringSize_0f7a4_16 G (w32 (-x0)) 0 (-10) 1 S I R Q))) : CI G MJ6_stringSize_0f7a4 [vI x0] S I R Q := by
  show E G MJ6_stringSize_0f7a4 0 [(0, vI x0)] [] S I R (qI Q)
  refine e_iconst dJ6_stringSize_0f7a4_0 (by unfold InR; decide) ?_
  refine e_istore_n (ls2 := [(1, vI 1), (0, vI x0)]) dJ6_stringSize_0f7a4_1 (by decide) rfl ?_
  refine e_iload_n 1 dJ6_stringSize_0f7a4_2 rfl ?_
  refine e_if_lt (tgt := 11) dJ6_stringSize_0f7a4_3 (by decide) (fun c => ?_) (fun c => ?_)
  · replace h := h.1 c
    refine e_bipush (x := (-10)) dJ6_stringSize_0f7a4_11 ⟨by decide +kernel, by unfold InR; decide⟩ ?_
    refine e_istore_n (ls2 := [(2, vI (-10)), (1, vI 1), (0, vI x0)]) dJ6_stringSize_0f7a4_13 (by decide) rfl ?_
    refine e_iconst dJ6_stringSize_0f7a4_14 (by unfold InR; decide) ?_
    refine e_istore_n (ls2 := [(3, vI 1), (2, vI (-10)), (1, vI 1), (0, vI x0)]) dJ6_stringSize_0f7a4_15 (by decide) rfl ?_
    exact e_sub (ls2 := [(0, vI x0), (1, vI 1), (2, vI (-10)), (3, vI 1)]) [3, 2, 1, 0] rfl h
  · replace h := h.2 c
    refine e_iconst dJ6_stringSize_0f7a4_6 (by unfold InR; decide) ?_
    refine e_istore_n (ls2 := [(1, vI 0), (0, vI x0)]) dJ6_stringSize_0f7a4_7 (by decide) rfl ?_
    refine e_iload_n 1 dJ6_stringSize_0f7a4_8 rfl ?_
    refine e_ineg dJ6_stringSize_0f7a4_9 ?_
    refine e_istore_n (ls2 := [(0, vI (w32 (-x0))), (1, vI 0)]) dJ6_stringSize_0f7a4_10 (by decide) rfl ?_
    refine e_bipush (x := (-10)) dJ6_stringSize_0f7a4_11 ⟨by decide +kernel, by unfold InR; decide⟩ ?_
    refine e_istore_n (ls2 := [(2, vI (-10)), (0, vI (w32 (-x0))), (1, vI 0)]) dJ6_stringSize_0f7a4_13 (by decide) rfl ?_
    refine e_iconst dJ6_stringSize_0f7a4_14 (by unfold InR; decide) ?_
    refine e_istore_n (ls2 := [(3, vI 1), (2, vI (-10)), (0, vI (w32 (-x0))), (1, vI 0)]) dJ6_stringSize_0f7a4_15 (by decide) rfl ?_
    exact e_sub (ls2 := [(0, vI (w32 (-x0))), (1, vI 0), (2, vI (-10)), (3, vI 1)]) [2, 3, 1, 0] rfl h
set_option maxRecDepth 100000 in
set_option maxHeartbeats 4000000 in
theorem bJ6_stringSize_0f7a4_16 {G : Gl} {S : Sh} {I : MI} {R : MR} {Q : Sh → MI → MR → Int → Prop} {x0 : Int} {x1 : Int} {x2 : Int} {x3 : Int} (h : ((10 ≤ x3 → Q S I R (w32 (10 + x1))) ∧ (¬ (10 ≤ x3) → ((x0 ≤ x2 → LJ6_stringSize_0f7a4_16 G x0 x1 (w32 (10 * x2)) (w32 (x3 + 1)) S I R Q) ∧ (¬ (x0 ≤ x2) → Q S I R (w32 (x3 + x1))))))) : LJ6_stringSize_0f7a4_16 G x0 x1 x2 x3 S I R Q := by
  show E G MJ6_stringSize_0f7a4 16 [(0, vI x0), (1, vI x1), (2, vI x2), (3, vI x3)] [] S I R (qI Q)
  refine e_iload_n 3 dJ6_stringSize_0f7a4_16 rfl ?_
  refine e_bipush (x := 10) dJ6_stringSize_0f7a4_17 ⟨by decide +kernel, by unfold InR; decide⟩ ?_
  refine e_icmp_ge (tgt := 42) dJ6_stringSize_0f7a4_19 (by decide) (fun c => ?_) (fun c => ?_)
  · replace h := h.1 c
    refine e_bipush (x := 10) dJ6_stringSize_0f7a4_42 ⟨by decide +kernel, by unfold InR; decide⟩ ?_
    refine e_iload_n 1 dJ6_stringSize_0f7a4_44 rfl ?_
    refine e_iadd dJ6_stringSize_0f7a4_45 ?_
    exact e_ireturn dJ6_stringSize_0f7a4_46 rfl ⟨_, rfl, h⟩
  · replace h := h.2 c
    refine e_iload_n 0 dJ6_stringSize_0f7a4_22 rfl ?_
    refine e_iload_n 2 dJ6_stringSize_0f7a4_23 rfl ?_
    refine e_icmp_le (tgt := 31) dJ6_stringSize_0f7a4_24 (by decide) (fun c => ?_) (fun c => ?_)
    · replace h := h.1 c
      refine e_bipush (x := 10) dJ6_stringSize_0f7a4_31 ⟨by decide +kernel, by unfold InR; decide⟩ ?_
      refine e_iload_n 2 dJ6_stringSize_0f7a4_33 rfl ?_
      refine e_imul dJ6_stringSize_0f7a4_34 ?_
      refine e_istore_n (ls2 := [(2, vI (w32 (10 * x2))), (0, vI x0), (1, vI x1), (3, vI x3)]) dJ6_stringSize_0f7a4_35 (by decide) rfl ?_
      refine e_iinc (ls2 := [(3, vI (w32 (x3 + 1))), (2, vI (w32 (10 * x2))), (0, vI x0), (1, vI x1)]) 3 dJ6_stringSize_0f7a4_36 rfl (by decide) rfl ?_
      refine e_goto (tgt := 16) dJ6_stringSize_0f7a4_39 (by decide) ?_
      exact e_sub (ls2 := [(0, vI x0), (1, vI x1), (2, vI (w32 (10 * x2))), (3, vI (w32 (x3 + 1)))]) [2, 3, 1, 0] rfl h
    · replace h := h.2 c
      refine e_iload_n 3 dJ6_stringSize_0f7a4_27 rfl ?_
      refine e_iload_n 1 dJ6_stringSize_0f7a4_28 rfl ?_
      refine e_iadd dJ6_stringSize_0f7a4_29 ?_
      exact e_ireturn dJ6_stringSize_0f7a4_30 rfl ⟨_, rfl, h⟩

set_option maxRecDepth 100000 in
set_option maxHeartbeats 4000000 in
theorem bJ5_append_c97b9 {G : Gl} {S : Sh} {I : MI} {R : MR} {Q : Sh → MI → MR → Nat → Prop} {x0 : Nat} {x1 : Int} (h : (sT S x0 = 11 ∧ (CI G MJ6_stringSize_0f7a4 [vI x1] S I R (fun S7 I7 R7 x7_ => (sT S7 x0 = 11 ∧ (CV G MJ5_ensureCapacityInternal_d00df [vR x0, vI (w32 ((I x0 3) + x7_))] S7 I7 R7 (fun S14 I14 R14 => (sT S14 x0 = 11 ∧ ((pJ5_isLatin1_aae02 S14 x0) ∧ (((vJ5_isLatin1_aae02 I14 x0) = 0 → False) ∧ (¬ ((vJ5_isLatin1_aae02 I14 x0) = 0) → (CI G MJ6_getChars_ba4f3 [vI x1, vI (w32 ((I x0 3) + x7_)), vR (R14 x0 0)] S14 I14 R14 (fun S30 I30 R30 x30_ => (sT S30 x0 = 11 ∧ (∀ I50, I50 = up2 I30 x0 3 (w32 ((I x0 3) + x7_)) → Q S30 I50 R30 x0))))))))))))))) : CR G MJ5_append_c97b9 [vR x0, vI x1] S I R Q := by
  show E G MJ5_append_c97b9 0 [(0, vR x0), (1, vI x1)] [] S I R (qR Q)
  refine e_aload_n 0 dJ5_append_c97b9_0 rfl ?_
  have o1 := h.1
  replace h := h.2
  refine e_getI dJ5_append_c97b9_1 flJ5_79 rfl o1 ?_
  refine e_istore_n (ls2 := [(2, vI (I x0 3)), (0, vR x0), (1, vI x1)]) dJ5_append_c97b9_4 (by decide) rfl ?_
  refine e_iload_n 0 dJ5_append_c97b9_5 rfl ?_
  refine e_iload_n 2 dJ5_append_c97b9_6 rfl ?_
  refine i_SI (μ' := MJ6_stringSize_0f7a4) (as := [vI x1]) (st := [vI (I x0 3)]) rfl dJ5_append_c97b9_7 mOKJ6_stringSize_0f7a4 ⟨mlJ5_245, stJ6_stringSize_0f7a4⟩ (by decide) (Nat.le_of_ble_eq_true rfl) rfl (Nat.le_of_ble_eq_true rfl) (CI.mono h ?_)
  clear h
  intro S7 I7 R7 x7_ h
  refine e_iadd dJ5_append_c97b9_10 ?_
  refine e_istore_n (ls2 := [(3, vI (w32 ((I x0 3) + x7_))), (2, vI (I x0 3)), (0, vR x0), (1, vI x1)]) dJ5_append_c97b9_11 (by decide) rfl ?_
  refine e_aload_n 2 dJ5_append_c97b9_12 rfl ?_
  refine e_iload_n 0 dJ5_append_c97b9_13 rfl ?_
  have o2 := h.1
  replace h := h.2
  refine i_VUV (μ' := MJ5_ensureCapacityInternal_d00df) (r := x0) (as := [vI (w32 ((I x0 3) + x7_))]) (st := []) rfl dJ5_append_c97b9_14 mOKJ5_ensureCapacityInternal_d00df rfl ⟨mlJ5_100, imJ5_ensureCapacityInternal_d00df, suJ5_ensureCapacityInternal_d00df⟩ (by decide) (Nat.le_of_ble_eq_true rfl) rfl (Nat.le_of_ble_eq_true rfl) o2 (CV.mono h ?_)
  clear h
  intro S14 I14 R14 h
  refine e_aload_n 2 dJ5_append_c97b9_17 rfl ?_
  have o3 := h.1
  replace h := h.2
  have o4 := h.1
  replace h := h.2
  refine i_VUI (μ' := MJ5_isLatin1_aae02) (r := x0) (as := []) (st := []) rfl dJ5_append_c97b9_18 mOKJ5_isLatin1_aae02 rfl ⟨mlJ5_83, imJ5_isLatin1_aae02, suJ5_isLatin1_aae02⟩ (by decide) (Nat.le_of_ble_eq_true rfl) rfl (Nat.le_of_ble_eq_true rfl) o3 (sJ5_isLatin1_aae02 o4 ?_)
  refine e_if_eq (tgt := 37) dJ5_append_c97b9_21 (by decide) (fun c => ?_) (fun c => ?_)
  · replace h := h.1 c
    refine e_iload_n 3 dJ5_append_c97b9_37 rfl ?_
    refine e_iload_n 1 dJ5_append_c97b9_38 rfl ?_
    refine e_iload_n 0 dJ5_append_c97b9_39 rfl ?_
    refine e_aload_n 2 dJ5_append_c97b9_40 rfl ?_
    refine e_getR dJ5_append_c97b9_41 flJ5_15 rfl o3 ?_
    exact h.elim
  · replace h := h.2 c
    refine e_iload_n 3 dJ5_append_c97b9_24 rfl ?_
    refine e_iload_n 0 dJ5_append_c97b9_25 rfl ?_
    refine e_aload_n 2 dJ5_append_c97b9_26 rfl ?_
    refine e_getR dJ5_append_c97b9_27 flJ5_15 rfl o3 ?_
    refine i_SI (μ' := MJ6_getChars_ba4f3) (as := [vI x1, vI (w32 ((I x0 3) + x7_)), vR (R14 x0 0)]) (st := []) rfl dJ5_append_c97b9_30 mOKJ6_getChars_ba4f3 ⟨mlJ5_248, stJ6_getChars_ba4f3⟩ (by decide) (Nat.le_of_ble_eq_true rfl) rfl (Nat.le_of_ble_eq_true rfl) (CI.mono h ?_)
    clear h
    intro S30 I30 R30 x30_ h
    refine e_pop dJ5_append_c97b9_33 rfl ?_
    refine e_goto (tgt := 48) dJ5_append_c97b9_34 (by decide) ?_
    refine e_aload_n 2 dJ5_append_c97b9_48 rfl ?_
    refine e_iload_n 0 dJ5_append_c97b9_49 rfl ?_
    have o5 := h.1
    replace h := h.2
    obtain ⟨I50, eI50⟩ : ∃ z : MI, z = up2 I30 x0 3 (w32 ((I x0 3) + x7_)) := ⟨_, rfl⟩
    replace h := h I50 eI50
    refine e_putI dJ5_append_c97b9_50 flJ5_79 rfl (Or.inl rfl) o5 (eqI eI50 ?_)
    refine e_aload_n 2 dJ5_append_c97b9_53 rfl ?_
    exact e_areturn (C := "") dJ5_append_c97b9_54 ⟨_, rfl⟩ ⟨_, rfl, h⟩

def vJ5_getValue_6d5f1 (R : MR) (x0 : Nat) : Nat := (R x0 0)
def pJ5_getValue_6d5f1 (S : Sh) (x0 : Nat) : Prop := (sT S x0 = 11 ∧ True)
set_option maxRecDepth 100000 in
set_option maxHeartbeats 4000000 in
theorem sJ5_getValue_6d5f1 {G : Gl} {S : Sh} {I : MI} {R : MR} {Q : Sh → MI → MR → Nat → Prop} {x0 : Nat} (hp : pJ5_getValue_6d5f1 S x0) (hq : Q S I R (vJ5_getValue_6d5f1 R x0)) : CR G MJ5_getValue_6d5f1 [vR x0] S I R Q := by
  show E G MJ5_getValue_6d5f1 0 [(0, vR x0)] [] S I R (qR Q)
  unfold vJ5_getValue_6d5f1 at hq
  unfold pJ5_getValue_6d5f1 at hp
  refine e_aload_n 0 dJ5_getValue_6d5f1_0 rfl ?_
  have o1 := hp.1
  replace hp := hp.2
  refine e_getR dJ5_getValue_6d5f1_1 flJ5_15 rfl o1 ?_
  exact e_areturnA dJ5_getValue_6d5f1_4 ⟨_, rfl⟩ ⟨_, rfl, hq⟩

def vJ6_bitCount_0f7a4  (x0 : Int) : Int := (iand (w32 ((w32 ((iand (w32 ((w32 ((iand (w32 (x0 - (iand (iushr x0 1) 1431655765))) 858993459) + (iand (iushr (w32 (x0 - (iand (iushr x0 1) 1431655765))) 2) 858993459))) + (iushr (w32 ((iand (w32 (x0 - (iand (iushr x0 1) 1431655765))) 858993459) + (iand (iushr (w32 (x0 - (iand (iushr x0 1) 1431655765))) 2) 858993459))) 4))) 252645135) + (iushr (iand (w32 ((w32 ((iand (w32 (x0 - (iand (iushr x0 1) 1431655765))) 858993459) + (iand (iushr (w32 (x0 - (iand (iushr x0 1) 1431655765))) 2) 858993459))) + (iushr (w32 ((iand (w32 (x0 - (iand (iushr x0 1) 1431655765))) 858993459) + (iand (iushr (w32 (x0 - (iand (iushr x0 1) 1431655765))) 2) 858993459))) 4))) 252645135) 8))) + (iushr (w32 ((iand (w32 ((w32 ((iand (w32 (x0 - (iand (iushr x0 1) 1431655765))) 858993459) + (iand (iushr (w32 (x0 - (iand (iushr x0 1) 1431655765))) 2) 858993459))) + (iushr (w32 ((iand (w32 (x0 - (iand (iushr x0 1) 1431655765))) 858993459) + (iand (iushr (w32 (x0 - (iand (iushr x0 1) 1431655765))) 2) 858993459))) 4))) 252645135) + (iushr (iand (w32 ((w32 ((iand (w32 (x0 - (iand (iushr x0 1) 1431655765))) 858993459) + (iand (iushr (w32 (x0 - (iand (iushr x0 1) 1431655765))) 2) 858993459))) + (iushr (w32 ((iand (w32 (x0 - (iand (iushr x0 1) 1431655765))) 858993459) + (iand (iushr (w32 (x0 - (iand (iushr x0 1) 1431655765))) 2) 858993459))) 4))) 252645135) 8))) 16))) 63)
set_option maxRecDepth 100000 in
set_option maxHeartbeats 4000000 in
theorem sJ6_bitCount_0f7a4 {G : Gl} {S : Sh} {I : MI} {R : MR} {Q : Sh → MI → MR → Int → Prop} {x0 : Int} (hq : Q S I R (vJ6_bitCount_0f7a4 x0)) : CI G MJ6_bitCount_0f7a4 [vI x0] S I R Q := by
  show E G MJ6_bitCount_0f7a4 0 [(0, vI x0)] [] S I R (qI Q)
  unfold vJ6_bitCount_0f7a4 at hq
  refine e_iload_n 0 dJ6_bitCount_0f7a4_0 rfl ?_
  refine e_iload_n 0 dJ6_bitCount_0f7a4_1 rfl ?_
  refine e_iconst dJ6_bitCount_0f7a4_2 (by unfold InR; decide) ?_
  refine e_iushr dJ6_bitCount_0f7a4_3 ?_
  refine e_ldcw (x := 1431655765) dJ6_bitCount_0f7a4_4 cnJ6_265 (by unfold InR; decide) ?_
  refine e_iand dJ6_bitCount_0f7a4_7 ?_
  refine e_isub dJ6_bitCount_0f7a4_8 ?_
  refine e_istore_n (ls2 := [(0, vI (w32 (x0 - (iand (iushr x0 1) 1431655765))))]) dJ6_bitCount_0f7a4_9 (by decide) rfl ?_
  refine e_iload_n 0 dJ6_bitCount_0f7a4_10 rfl ?_
  refine e_ldcw (x := 858993459) dJ6_bitCount_0f7a4_11 cnJ6_266 (by unfold InR; decide) ?_
  refine e_iand dJ6_bitCount_0f7a4_14 ?_
  refine e_iload_n 0 dJ6_bitCount_0f7a4_15 rfl ?_
  refine e_iconst dJ6_bitCount_0f7a4_16 (by unfold InR; decide) ?_
  refine e_iushr dJ6_bitCount_0f7a4_17 ?_
  refine e_ldcw (x := 858993459) dJ6_bitCount_0f7a4_18 cnJ6_266 (by unfold InR; decide) ?_
  refine e_iand dJ6_bitCount_0f7a4_21 ?_
  refine e_iadd dJ6_bitCount_0f7a4_22 ?_
  refine e_istore_n (ls2 := [(0, vI (w32 ((iand (w32 (x0 - (iand (iushr x0 1) 1431655765))) 858993459) + (iand (iushr (w32 (x0 - (iand (iushr x0 1) 1431655765))) 2) 858993459))))]) dJ6_bitCount_0f7a4_23 (by decide) rfl ?_
  refine e_iload_n 0 dJ6_bitCount_0f7a4_24 rfl ?_
  refine e_iload_n 0 dJ6_bitCount_0f7a4_25 rfl ?_
  refine e_iconst dJ6_bitCount_0f7a4_26 (by unfold InR; decide) ?_
  refine e_iushr dJ6_bitCount_0f7a4_27 ?_
  refine e_iadd dJ6_bitCount_0f7a4_28 ?_
  refine e_ldcw (x := 252645135) dJ6_bitCount_0f7a4_29 cnJ6_267 (by unfold InR; decide) ?_
  refine e_iand dJ6_bitCount_0f7a4_32 ?_
  refine e_istore_n (ls2 := [(0, vI (iand (w32 ((w32 ((iand (w32 (x0 - (iand (iushr x0 1) 1431655765))) 858993459) + (iand (iushr (w32 (x0 - (iand (iushr x0 1) 1431655765))) 2) 858993459))) + (iushr (w32 ((iand (w32 (x0 - (iand (iushr x0 1) 1431655765))) 858993459) + (iand (iushr (w32 (x0 - (iand (iushr x0 1) 1431655765))) 2) 858993459))) 4))) 252645135))]) dJ6_bitCount_0f7a4_33 (by decide) rfl ?_
  refine e_iload_n 0 dJ6_bitCount_0f7a4_34 rfl ?_
  refine e_iload_n 0 dJ6_bitCount_0f7a4_35 rfl ?_
  refine e_bipush (x := 8) dJ6_bitCount_0f7a4_36 ⟨by decide +kernel, by unfold InR; decide⟩ ?_
  refine e_iushr dJ6_bitCount_0f7a4_38 ?_
  refine e_iadd dJ6_bitCount_0f7a4_39 ?_
  refine e_istore_n (ls2 := [(0, vI (w32 ((iand (w32 ((w32 ((iand (w32 (x0 - (iand (iushr x0 1) 1431655765))) 858993459) + (iand (iushr (w32 (x0 - (iand (iushr x0 1) 1431655765))) 2) 858993459))) + (iushr (w32 ((iand (w32 (x0 - (iand (iushr x0 1) 1431655765))) 858993459) + (iand (iushr (w32 (x0 - (iand (iushr x0 1) 1431655765))) 2) 858993459))) 4))) 252645135) + (iushr (iand (w32 ((w32 ((iand (w32 (x0 - (iand (iushr x0 1) 1431655765))) 858993459) + (iand (iushr (w32 (x0 - (iand (iushr x0 1) 1431655765))) 2) 858993459))) + (iushr (w32 ((iand (w32 (x0 - (iand (iushr x0 1) 1431655765))) 858993459) + (iand (iushr (w32 (x0 - (iand (iushr x0 1) 1431655765))) 2) 858993459))) 4))) 252645135) 8))))]) dJ6_bitCount_0f7a4_40 (by decide) rfl ?_
  refine e_iload_n 0 dJ6_bitCount_0f7a4_41 rfl ?_
  refine e_iload_n 0 dJ6_bitCount_0f7a4_42 rfl ?_
  refine e_bipush (x := 16) dJ6_bitCount_0f7a4_43 ⟨by decide +kernel, by unfold InR; decide⟩ ?_
  refine e_iushr dJ6_bitCount_0f7a4_45 ?_
  refine e_iadd dJ6_bitCount_0f7a4_46 ?_
  refine e_istore_n (ls2 := [(0, vI (w32 ((w32 ((iand (w32 ((w32 ((iand (w32 (x0 - (iand (iushr x0 1) 1431655765))) 858993459) + (iand (iushr (w32 (x0 - (iand (iushr x0 1) 1431655765))) 2) 858993459))) + (iushr (w32 ((iand (w32 (x0 - (iand (iushr x0 1) 1431655765))) 858993459) + (iand (iushr (w32 (x0 - (iand (iushr x0 1) 1431655765))) 2) 858993459))) 4))) 252645135) + (iushr (iand (w32 ((w32 ((iand (w32 (x0 - (iand (iushr x0 1) 1431655765))) 858993459) + (iand (iushr (w32 (x0 - (iand (iushr x0 1) 1431655765))) 2) 858993459))) + (iushr (w32 ((iand (w32 (x0 - (iand (iushr x0 1) 1431655765))) 858993459) + (iand (iushr (w32 (x0 - (iand (iushr x0 1) 1431655765))) 2) 858993459))) 4))) 252645135) 8))) + (iushr (w32 ((iand (w32 ((w32 ((iand (w32 (x0 - (iand (iushr x0 1) 1431655765))) 858993459) + (iand (iushr (w32 (x0 - (iand (iushr x0 1) 1431655765))) 2) 858993459))) + (iushr (w32 ((iand (w32 (x0 - (iand (iushr x0 1) 1431655765))) 858993459) + (iand (iushr (w32 (x0 - (iand (iushr x0 1) 1431655765))) 2) 858993459))) 4))) 252645135) + (iushr (iand (w32 ((w32 ((iand (w32 (x0 - (iand (iushr x0 1) 1431655765))) 858993459) + (iand (iushr (w32 (x0 - (iand (iushr x0 1) 1431655765))) 2) 858993459))) + (iushr (w32 ((iand (w32 (x0 - (iand (iushr x0 1) 1431655765))) 858993459) + (iand (iushr (w32 (x0 - (iand (iushr x0 1) 1431655765))) 2) 858993459))) 4))) 252645135) 8))) 16))))]) dJ6_bitCount_0f7a4_47 (by decide) rfl ?_
  refine e_iload_n 0 dJ6_bitCount_0f7a4_48 rfl ?_
  refine e_bipush (x := 63) dJ6_bitCount_0f7a4_49 ⟨by decide +kernel, by unfold InR; decide⟩ ?_
  refine e_iand dJ6_bitCount_0f7a4_51 ?_
  exact e_ireturn dJ6_bitCount_0f7a4_52 rfl ⟨_, rfl, hq⟩

def vJ4_length_8abf5 (I : MI) (x0 : Nat) : Int := (vJ5_length_8abf5 I x0)
def pJ4_length_8abf5 (S : Sh) (x0 : Nat) : Prop := (sT S x0 = 11 ∧ ((pJ5_length_8abf5 S x0) ∧ True))
set_option maxRecDepth 100000 in
set_option maxHeartbeats 4000000 in
theorem sJ4_length_8abf5 {G : Gl} {S : Sh} {I : MI} {R : MR} {Q : Sh → MI → MR → Int → Prop} {x0 : Nat} (hp : pJ4_length_8abf5 S x0) (hq : Q S I R (vJ4_length_8abf5 I x0)) : CI G MJ4_length_8abf5 [vR x0] S I R Q := by
  show E G MJ4_length_8abf5 0 [(0, vR x0)] [] S I R (qI Q)
  unfold vJ4_length_8abf5 at hq
  unfold pJ4_length_8abf5 at hp
  refine e_aload_n 0 dJ4_length_8abf5_0 rfl ?_
  have o1 := hp.1
  replace hp := hp.2
  have o2 := hp.1
  replace hp := hp.2
  refine i_SUI (μ' := MJ5_length_8abf5) (r := x0) (as := []) (st := []) rfl dJ4_length_8abf5_1 mOKJ5_length_8abf5 (by decide) ⟨mlJ4_343, imJ5_length_8abf5, ssJ5_length_8abf5⟩ (by decide) (Nat.le_of_ble_eq_true rfl) rfl (Nat.le_of_ble_eq_true rfl) rfl o1 (sJ5_length_8abf5 o2 ?_)
  exact e_ireturn dJ4_length_8abf5_4 rfl ⟨_, rfl, hq⟩

set_option maxRecDepth 100000 in
set_option maxHeartbeats 4000000 in
theorem bJ7_checkLength_df160 {G : Gl} {S : Sh} {I : MI} {R : MR} {Q : Sh → MI → MR → Prop} {x0 : Int} {x1 : Int} (h : ((x0 ≤ x1 → Q S I R) ∧ (¬ (x0 ≤ x1) → False))) : CV G MJ7_checkLength_df160 [vI x0, vI x1] S I R Q := by
  show E G MJ7_checkLength_df160 0 [(0, vI x0), (1, vI x1)] [] S I R (qV Q)
  refine e_iload_n 1 dJ7_checkLength_df160_0 rfl ?_
  refine e_iload_n 0 dJ7_checkLength_df160_1 rfl ?_
  refine e_icmp_ge (tgt := 37) dJ7_checkLength_df160_2 (by decide) (fun c => ?_) (fun c => ?_)
  · replace h := h.1 c
    exact e_return dJ7_checkLength_df160_37 rfl ⟨rfl, h⟩
  · replace h := h.2 c
    exact h.elim

set_option maxRecDepth 100000 in
set_option maxHeartbeats 4000000 in
theorem bJ7_copyOfRangeByte_39247 {G : Gl} {S : Sh} {I : MI} {R : MR} {Q : Sh → MI → MR → Nat → Prop} {x0 : Nat} {x1 : Int} {x2 : Int} (h : (CV G MJ7_checkLength_df160 [vI x1, vI x2] S I R (fun S2 I2 R2 => (∃ n10 : Nat, (w32 (x2 - x1)) = (n10 : Int) ∧ n10 ≤ 100000000 ∧ (∀ S10 I10 R10, S10 = shNew S2 22 n10 n10 → I10 = mNew I2 (sN S2) 0 → R10 = mNew R2 (sN S2) 0 → (21 ≤ sT S10 x0 ∧ (sT S10 x0 = 22 ∧ (sT S10 (sN S2) = 22 ∧ ((0 : Int) ≤ x1 ∧ ((0 : Int) ≤ 0 ∧ ((0 : Int) ≤ (min (w32 ((sL S10 x0 : Int) - x1)) (w32 (x2 - x1))) ∧ (x1 + (min (w32 ((sL S10 x0 : Int) - x1)) (w32 (x2 - x1))) ≤ (sL S10 x0 : Int) ∧ (0 + (min (w32 ((sL S10 x0 : Int) - x1)) (w32 (x2 - x1))) ≤ (sL S10 (sN S2) : Int) ∧ (∀ I27, I27 = up1 I10 (sN S2) (va_cpy (I10 x0) (I10 (sN S2)) (Int.toNat x1) (Int.toNat 0) (Int.toNat (min (w32 ((sL S10 x0 : Int) - x1)) (w32 (x2 - x1))))) → Q S10 I27 R10 (sN S2))))))))))))))) : CR G MJ7_copyOfRangeByte_39247 [vR x0, vI x1, vI x2] S I R Q := by
  show E G MJ7_copyOfRangeByte_39247 0 [(0, vR x0), (1, vI x1), (2, vI x2)] [] S I R (qR Q)
  refine e_iload_n 1 dJ7_copyOfRangeByte_39247_0 rfl ?_
  refine e_iload_n 2 dJ7_copyOfRangeByte_39247_1 rfl ?_
  refine i_SV (μ' := MJ7_checkLength_df160) (as := [vI x1, vI x2]) (st := []) rfl dJ7_copyOfRangeByte_39247_2 mOKJ7_checkLength_df160 ⟨mlJ7_343, stJ7_checkLength_df160⟩ (by decide) (Nat.le_of_ble_eq_true rfl) rfl (Nat.le_of_ble_eq_true rfl) (CV.mono h ?_)
  clear h
  intro S2 I2 R2 h
  refine e_iload_n 2 dJ7_copyOfRangeByte_39247_5 rfl ?_
  refine e_iload_n 1 dJ7_copyOfRangeByte_39247_6 rfl ?_
  refine e_isub dJ7_copyOfRangeByte_39247_7 ?_
  refine e_istore_n (ls2 := [(3, vI (w32 (x2 - x1))), (0, vR x0), (1, vI x1), (2, vI x2)]) dJ7_copyOfRangeByte_39247_8 (by decide) rfl ?_
  refine e_iload_n 0 dJ7_copyOfRangeByte_39247_9 rfl ?_
  obtain ⟨n10, h0, h1, h⟩ := h
  obtain ⟨S10, eS10⟩ : ∃ z : Sh, z = shNew S2 22 n10 n10 := ⟨_, rfl⟩
  obtain ⟨I10, eI10⟩ : ∃ z : MI, z = mNew I2 (sN S2) 0 := ⟨_, rfl⟩
  obtain ⟨R10, eR10⟩ : ∃ z : MR, z = mNew R2 (sN S2) 0 := ⟨_, rfl⟩
  replace h := h S10 I10 R10 eS10 eI10 eR10
  refine e_newa (t := 22) (n := n10) dJ7_copyOfRangeByte_39247_10 (Or.inr ⟨rfl, rfl⟩) acbyte h0 h1 (eqS eS10 (eqI eI10 (eqR eR10 ?_)))
  refine e_astore (ls2 := [(4, vR (sN S2)), (3, vI (w32 (x2 - x1))), (0, vR x0), (1, vI x1), (2, vI x2)]) dJ7_copyOfRangeByte_39247_12 (by decide) rfl ?_
  refine e_aload_n 2 dJ7_copyOfRangeByte_39247_14 rfl ?_
  refine e_iload_n 3 dJ7_copyOfRangeByte_39247_15 rfl ?_
  refine e_aload 0 dJ7_copyOfRangeByte_39247_16 rfl ?_
  refine e_iconst dJ7_copyOfRangeByte_39247_18 (by unfold InR; decide) ?_
  refine e_aload_n 2 dJ7_copyOfRangeByte_39247_19 rfl ?_
  have o1 := h.1
  replace h := h.2
  refine e_alen dJ7_copyOfRangeByte_39247_20 o1 ?_
  refine e_iload_n 3 dJ7_copyOfRangeByte_39247_21 rfl ?_
  refine e_isub dJ7_copyOfRangeByte_39247_22 ?_
  refine e_iload_n 1 dJ7_copyOfRangeByte_39247_23 rfl ?_
  refine e_mmin dJ7_copyOfRangeByte_39247_24 mmJ7_304 mxmin (by decide) (Nat.le_of_ble_eq_true rfl) ?_
  have o2 := h.1
  replace h := h.2
  have o3 := h.1
  replace h := h.2
  have o4 := h.1
  replace h := h.2
  have o5 := h.1
  replace h := h.2
  have o6 := h.1
  replace h := h.2
  have o7 := h.1
  replace h := h.2
  have o8 := h.1
  replace h := h.2
  obtain ⟨I27, eI27⟩ : ∃ z : MI, z = up1 I10 (sN S2) (va_cpy (I10 x0) (I10 (sN S2)) (Int.toNat x1) (Int.toNat 0) (Int.toNat (min (w32 ((sL S10 x0 : Int) - x1)) (w32 (x2 - x1))))) := ⟨_, rfl⟩
  replace h := h I27 eI27
  refine e_copyB dJ7_copyOfRangeByte_39247_27 ⟨maJ7_150, acp⟩ (by decide) (Nat.le_of_ble_eq_true rfl) o2 o3 o4 o5 o6 o7 o8 (eqI eI27 ?_)
  refine e_aload 0 dJ7_copyOfRangeByte_39247_30 rfl ?_
  exact e_areturnA dJ7_copyOfRangeByte_39247_32 ⟨_, rfl⟩ ⟨_, rfl, h⟩

set_option maxRecDepth 100000 in
set_option maxHeartbeats 4000000 in
theorem bJ7_copyOfRange_39247 {G : Gl} {S : Sh} {I : MI} {R : MR} {Q : Sh → MI → MR → Nat → Prop} {x0 : Nat} {x1 : Int} {x2 : Int} (h : ((x1 ≠ 0 → (CR G MJ7_copyOfRangeByte_39247 [vR x0, vI x1, vI x2] S I R (fun S13 I13 R13 x13_ => Q S13 I13 R13 x13_))) ∧ (¬ (x1 ≠ 0) → (21 ≤ sT S x0 ∧ ((x2 = (sL S x0 : Int) → (sT S x0 = 22 ∧ (∀ S18 I18 R18, S18 = shNew S 22 (sL S x0) (sL S x0) → I18 = mCl I (sN S) x0 → R18 = mNew R (sN S) 0 → (sT S18 (sN S) = 22 ∧ Q S18 I18 R18 (sN S))))) ∧ (¬ (x2 = (sL S x0 : Int)) → (CR G MJ7_copyOfRangeByte_39247 [vR x0, vI x1, vI x2] S I R (fun S13 I13 R13 x13_ => Q S13 I13 R13 x13_)))))))) : CR G MJ7_copyOfRange_39247 [vR x0, vI x1, vI x2] S I R Q := by
  show E G MJ7_copyOfRange_39247 0 [(0, vR x0), (1, vI x1), (2, vI x2)] [] S I R (qR Q)
  refine e_iload_n 1 dJ7_copyOfRange_39247_0 rfl ?_
  refine e_if_ne (tgt := 10) dJ7_copyOfRange_39247_1 (by decide) (fun c => ?_) (fun c => ?_)
  · replace h := h.1 c
    refine e_aload_n 0 dJ7_copyOfRange_39247_10 rfl ?_
    refine e_iload_n 1 dJ7_copyOfRange_39247_11 rfl ?_
    refine e_iload_n 2 dJ7_copyOfRange_39247_12 rfl ?_
    refine i_SR (μ' := MJ7_copyOfRangeByte_39247) (as := [vR x0, vI x1, vI x2]) (st := []) rfl dJ7_copyOfRange_39247_13 mOKJ7_copyOfRangeByte_39247 ⟨mlJ7_339, stJ7_copyOfRangeByte_39247⟩ (by decide) (Nat.le_of_ble_eq_true rfl) rfl (Nat.le_of_ble_eq_true rfl) (CR.mono h ?_)
    clear h
    intro S13 I13 R13 x13_ h
    exact e_areturnA dJ7_copyOfRange_39247_16 ⟨_, rfl⟩ ⟨_, rfl, h⟩
  · replace h := h.2 c
    refine e_iload_n 2 dJ7_copyOfRange_39247_4 rfl ?_
    refine e_aload_n 0 dJ7_copyOfRange_39247_5 rfl ?_
    have o1 := h.1
    replace h := h.2
    refine e_alen dJ7_copyOfRange_39247_6 o1 ?_
    refine e_icmp_eq (tgt := 17) dJ7_copyOfRange_39247_7 (by decide) (fun c => ?_) (fun c => ?_)
    · replace h := h.1 c
      refine e_aload_n 0 dJ7_copyOfRange_39247_17 rfl ?_
      have o2 := h.1
      replace h := h.2
      obtain ⟨S18, eS18⟩ : ∃ z : Sh, z = shNew S 22 (sL S x0) (sL S x0) := ⟨_, rfl⟩
      obtain ⟨I18, eI18⟩ : ∃ z : MI, z = mCl I (sN S) x0 := ⟨_, rfl⟩
      obtain ⟨R18, eR18⟩ : ∃ z : MR, z = mNew R (sN S) 0 := ⟨_, rfl⟩
      replace h := h S18 I18 R18 eS18 eI18 eR18
      refine e_clone dJ7_copyOfRange_39247_18 ⟨mcJ7_310, mclo⟩ (by decide) (Nat.le_of_ble_eq_true rfl) o2 (eqS eS18 (eqI eI18 (eqR eR18 ?_)))
      have o3 := h.1
      replace h := h.2
      refine e_castB dJ7_copyOfRange_39247_21 ⟨clJ7_311, acbyte⟩ o3 ?_
      exact e_areturnA dJ7_copyOfRange_39247_24 ⟨_, rfl⟩ ⟨_, rfl, h⟩
    · replace h := h.2 c
      refine e_aload_n 0 dJ7_copyOfRange_39247_10 rfl ?_
      refine e_iload_n 1 dJ7_copyOfRange_39247_11 rfl ?_
      refine e_iload_n 2 dJ7_copyOfRange_39247_12 rfl ?_
      refine i_SR (μ' := MJ7_copyOfRangeByte_39247) (as := [vR x0, vI x1, vI x2]) (st := []) rfl dJ7_copyOfRange_39247_13 mOKJ7_copyOfRangeByte_39247 ⟨mlJ7_339, stJ7_copyOfRangeByte_39247⟩ (by decide) (Nat.le_of_ble_eq_true rfl) rfl (Nat.le_of_ble_eq_true rfl) (CR.mono h ?_)
      clear h
      intro S13 I13 R13 x13_ h
      exact e_areturnA dJ7_copyOfRange_39247_16 ⟨_, rfl⟩ ⟨_, rfl, h⟩

def LJ0_init_db425_79 (G : Gl) (x0 : Nat) (x3 : Nat) (x4 : Int) (S : Sh) (I : MI) (R : MR) (Q : Sh → MI → MR → Prop) : Prop := E G MJ0_init_db425 79 [(0, vR x0), (3, vR x3), (4, vI x4)] [] S I R (qV Q)
set_option maxRecDepth 100000 in
set_option maxHeartbeats 4000000 in
theorem bJ0_init_db425 {G : Gl} {S : Sh} {I : MI} {R : MR} {Q : Sh → MI → MR → Prop} {x0 : Nat} {x1 : Nat} {x2 : Nat} (h : (sT S x0 ≠ 0 ∧ (sT S x1 = 11 ∧ ((pJ5_getValue_6d5f1 S x1) ∧ ((pJ4_length_8abf5 S x1) ∧ ((pJ5_isLatin1_aae02 S x1) ∧ (((vJ5_isLatin1_aae02 I x1) = 0 → (((I x1 2) = 0 → LJ0_init_db425_79 G x0 (vJ5_getValue_6d5f1 R x1) (vJ4_length_8abf5 I x1) S I R Q) ∧ (¬ ((I x1 2) = 0) → False))) ∧ (¬ ((vJ5_isLatin1_aae02 I x1) = 0) → (sT S x0 = 10 ∧ (∀ I24, I24 = up2 I x0 1 0 → (CR G MJ7_copyOfRange_39247 [vR (vJ5_getValue_6d5f1 R x1), vI 0, vI (vJ4_length_8abf5 I x1)] S I24 R (fun S32 I32 R32 x32_ => (sT S32 x0 = 10 ∧ (∀ R35, R35 = up2 R32 x0 0 x32_ → Q S32 I32 R35)))))))))))))) : CV G MJ0_init_db425 [vR x0, vR x1, vR x2] S I R Q := by
  show E G MJ0_init_db425 0 [(0, vR x0), (1, vR x1), (2, vR x2)] [] S I R (qV Q)
  refine e_aload_n 0 dJ0_init_db425_0 rfl ?_
  have o1 := h.1
  replace h := h.2
  refine e_objI dJ0_init_db425_1 ⟨moJ0_1, oc⟩ (by decide) (Nat.le_of_ble_eq_true rfl) o1 ?_
  refine e_aload_n 1 dJ0_init_db425_4 rfl ?_
  have o2 := h.1
  replace h := h.2
  have o3 := h.1
  replace h := h.2
  refine i_VUR (μ' := MJ5_getValue_6d5f1) (r := x1) (as := []) (st := []) rfl dJ0_init_db425_5 mOKJ5_getValue_6d5f1 rfl ⟨mlJ0_552, imJ5_getValue_6d5f1, suJ5_getValue_6d5f1⟩ (by decide) (Nat.le_of_ble_eq_true rfl) rfl (Nat.le_of_ble_eq_true rfl) o2 (sJ5_getValue_6d5f1 o3 ?_)
  refine e_astore_n (ls2 := [(3, vR (vJ5_getValue_6d5f1 R x1)), (0, vR x0), (1, vR x1), (2, vR x2)]) dJ0_init_db425_8 (by decide) rfl ?_
  refine e_aload_n 2 dJ0_init_db425_9 rfl ?_
  have o4 := h.1
  replace h := h.2
  refine i_VOI (μ' := MJ4_length_8abf5) (r := x1) (as := []) (st := []) rfl dJ0_init_db425_10 mOKJ4_length_8abf5 ⟨rfl, by decide +kernel⟩ vole (by decide) (Nat.le_of_ble_eq_true rfl) rfl (Nat.le_of_ble_eq_true rfl) o2 (sJ4_length_8abf5 o4 ?_)
  refine e_istore (ls2 := [(4, vI (vJ4_length_8abf5 I x1)), (3, vR (vJ5_getValue_6d5f1 R x1)), (0, vR x0), (1, vR x1), (2, vR x2)]) dJ0_init_db425_13 (by decide) rfl ?_
  refine e_aload_n 3 dJ0_init_db425_15 rfl ?_
  have o5 := h.1
  replace h := h.2
  refine i_VUI (μ' := MJ5_isLatin1_aae02) (r := x1) (as := []) (st := []) rfl dJ0_init_db425_16 mOKJ5_isLatin1_aae02 rfl ⟨mlJ0_1047, imJ5_isLatin1_aae02, suJ5_isLatin1_aae02⟩ (by decide) (Nat.le_of_ble_eq_true rfl) rfl (Nat.le_of_ble_eq_true rfl) o2 (sJ5_isLatin1_aae02 o5 ?_)
  refine e_if_eq (tgt := 41) dJ0_init_db425_19 (by decide) (fun c => ?_) (fun c => ?_)
  · replace h := h.1 c
    refine e_getsC dJ0_init_db425_41 fsJ0_38 ?_
    refine e_if_eq (tgt := 79) dJ0_init_db425_44 (by decide) (fun c => absurd c (by decide)) (fun _ => ?_)
    refine e_aload_n 3 dJ0_init_db425_47 rfl ?_
    refine e_getI dJ0_init_db425_48 flJ0_1048 rfl o2 ?_
    refine e_if_eq (tgt := 79) dJ0_init_db425_51 (by decide) (fun c => ?_) (fun c => ?_)
    · replace h := h.1 c
      exact e_sub (ls2 := [(0, vR x0), (3, vR (vJ5_getValue_6d5f1 R x1)), (4, vI (vJ4_length_8abf5 I x1))]) [2, 1, 0] rfl h
    · replace h := h.2 c
      refine e_aload_n 2 dJ0_init_db425_54 rfl ?_
      refine e_aload_n 1 dJ0_init_db425_55 rfl ?_
      refine e_iconst dJ0_init_db425_56 (by unfold InR; decide) ?_
      refine e_iload 0 dJ0_init_db425_57 rfl ?_
      exact h.elim
  · replace h := h.2 c
    refine e_aload_n 2 dJ0_init_db425_22 rfl ?_
    refine e_iconst dJ0_init_db425_23 (by unfold InR; decide) ?_
    have o6 := h.1
    replace h := h.2
    obtain ⟨I24, eI24⟩ : ∃ z : MI, z = up2 I x0 1 0 := ⟨_, rfl⟩
    replace h := h I24 eI24
    refine e_putB dJ0_init_db425_24 flJ0_15 rfl (Or.inr ⟨rfl, rfl, rfl⟩) o6 (by decide) (eqI eI24 ?_)
    refine e_aload_n 2 dJ0_init_db425_27 rfl ?_
    refine e_aload_n 1 dJ0_init_db425_28 rfl ?_
    refine e_iconst dJ0_init_db425_29 (by unfold InR; decide) ?_
    refine e_iload 0 dJ0_init_db425_30 rfl ?_
    refine i_SR (μ' := MJ7_copyOfRange_39247) (as := [vR (vJ5_getValue_6d5f1 R x1), vI 0, vI (vJ4_length_8abf5 I x1)]) (st := [vR x0]) rfl dJ0_init_db425_32 mOKJ7_copyOfRange_39247 ⟨mlJ0_54, stJ7_copyOfRange_39247⟩ (by decide) (Nat.le_of_ble_eq_true rfl) rfl (Nat.le_of_ble_eq_true rfl) (CR.mono h ?_)
    clear h
    intro S32 I32 R32 x32_ h
    have o7 := h.1
    replace h := h.2
    obtain ⟨R35, eR35⟩ : ∃ z : MR, z = up2 R32 x0 0 x32_ := ⟨_, rfl⟩
    replace h := h R35 eR35
    refine e_putR dJ0_init_db425_35 flJ0_9 rfl (Or.inr ⟨rfl, rfl, rfl⟩) o7 (eqR eR35 ?_)
    refine e_goto (tgt := 97) dJ0_init_db425_38 (by decide) ?_
    exact e_return dJ0_init_db425_97 rfl ⟨rfl, h⟩
set_option maxRecDepth 100000 in
set_option maxHeartbeats 4000000 in
theorem bJ0_init_db425_79 {G : Gl} {S : Sh} {I : MI} {R : MR} {Q : Sh → MI → MR → Prop} {x0 : Nat} {x3 : Nat} {x4 : Int} (h : (sT S x0 = 10 ∧ (∀ I81, I81 = up2 I x0 1 1 → (CR G MJ7_copyOfRange_39247 [vR x3, vI 0, vI (ishl x4 1)] S I81 R (fun S91 I91 R91 x91_ => (sT S91 x0 = 10 ∧ (∀ R94, R94 = up2 R91 x0 0 x91_ → Q S91 I91 R94))))))) : LJ0_init_db425_79 G x0 x3 x4 S I R Q := by
  show E G MJ0_init_db425 79 [(0, vR x0), (3, vR x3), (4, vI x4)] [] S I R (qV Q)
  refine e_aload_n 0 dJ0_init_db425_79 rfl ?_
  refine e_iconst dJ0_init_db425_80 (by unfold InR; decide) ?_
  have o8 := h.1
  replace h := h.2
  obtain ⟨I81, eI81⟩ : ∃ z : MI, z = up2 I x0 1 1 := ⟨_, rfl⟩
  replace h := h I81 eI81
  refine e_putB dJ0_init_db425_81 flJ0_15 rfl (Or.inr ⟨rfl, rfl, rfl⟩) o8 (by decide) (eqI eI81 ?_)
  refine e_aload_n 0 dJ0_init_db425_84 rfl ?_
  refine e_aload_n 1 dJ0_init_db425_85 rfl ?_
  refine e_iconst dJ0_init_db425_86 (by unfold InR; decide) ?_
  refine e_iload 2 dJ0_init_db425_87 rfl ?_
  refine e_iconst dJ0_init_db425_89 (by unfold InR; decide) ?_
  refine e_ishl dJ0_init_db425_90 ?_
  refine i_SR (μ' := MJ7_copyOfRange_39247) (as := [vR x3, vI 0, vI (ishl x4 1)]) (st := [vR x0]) rfl dJ0_init_db425_91 mOKJ7_copyOfRange_39247 ⟨mlJ0_54, stJ7_copyOfRange_39247⟩ (by decide) (Nat.le_of_ble_eq_true rfl) rfl (Nat.le_of_ble_eq_true rfl) (CR.mono h ?_)
  clear h
  intro S91 I91 R91 x91_ h
  have o9 := h.1
  replace h := h.2
  obtain ⟨R94, eR94⟩ : ∃ z : MR, z = up2 R91 x0 0 x91_ := ⟨_, rfl⟩
  replace h := h R94 eR94
  refine e_putR dJ0_init_db425_94 flJ0_9 rfl (Or.inr ⟨rfl, rfl, rfl⟩) o9 (eqR eR94 ?_)
  exact e_return dJ0_init_db425_97 rfl ⟨rfl, h⟩

set_option maxRecDepth 100000 in
set_option maxHeartbeats 4000000 in
theorem bJ0_init_81219 {G : Gl} {S : Sh} {I : MI} {R : MR} {Q : Sh → MI → MR → Prop} {x0 : Nat} {x1 : Nat} (h : (sT S x0 ≠ 0 ∧ (CV G MJ0_init_db425 [vR x0, vR x1, vR 0] S I R (fun S3 I3 R3 => Q S3 I3 R3)))) : CV G MJ0_init_81219 [vR x0, vR x1] S I R Q := by
  show E G MJ0_init_81219 0 [(0, vR x0), (1, vR x1)] [] S I R (qV Q)
  refine e_aload_n 0 dJ0_init_81219_0 rfl ?_
  refine e_aload_n 1 dJ0_init_81219_1 rfl ?_
  refine e_null dJ0_init_81219_2 ?_
  have o1 := h.1
  replace h := h.2
  refine i_IV (μ' := MJ0_init_db425) (r := x0) (as := [vR x1, vR 0]) (st := []) rfl dJ0_init_81219_3 mOKJ0_init_db425 ⟨mlJ0_489, imJ0_init_db425⟩ ⟨rfl, rfl⟩ (by decide) (Nat.le_of_ble_eq_true rfl) rfl (Nat.le_of_ble_eq_true rfl) o1 (CV.mono h ?_)
  clear h
  intro S3 I3 R3 h
  exact e_return dJ0_init_81219_6 rfl ⟨rfl, h⟩

def vJ0_isLatin1_aae02 (I : MI) (x0 : Nat) : Int := (if (I x0 1) ≠ 0 then 0 else 1)
def pJ0_isLatin1_aae02 (S : Sh) (x0 : Nat) : Prop := (sT S x0 = 10 ∧ True)
set_option maxRecDepth 100000 in
set_option maxHeartbeats 4000000 in
theorem sJ0_isLatin1_aae02 {G : Gl} {S : Sh} {I : MI} {R : MR} {Q : Sh → MI → MR → Int → Prop} {x0 : Nat} (hp : pJ0_isLatin1_aae02 S x0) (hq : Q S I R (vJ0_isLatin1_aae02 I x0)) : CI G MJ0_isLatin1_aae02 [vR x0] S I R Q := by
  show E G MJ0_isLatin1_aae02 0 [(0, vR x0)] [] S I R (qI Q)
  unfold vJ0_isLatin1_aae02 at hq
  unfold pJ0_isLatin1_aae02 at hp
  refine e_getsC dJ0_isLatin1_aae02_0 fsJ0_38 ?_
  refine e_if_eq (tgt := 17) dJ0_isLatin1_aae02_3 (by decide) (fun c => absurd c (by decide)) (fun _ => ?_)
  refine e_aload_n 0 dJ0_isLatin1_aae02_6 rfl ?_
  have o1 := hp.1
  replace hp := hp.2
  refine e_getI dJ0_isLatin1_aae02_7 flJ0_15 rfl o1 ?_
  refine e_if_ne (tgt := 17) dJ0_isLatin1_aae02_10 (by decide) (fun c => ?_) (fun c => ?_)
  · rw [if_pos c] at hq
    refine e_iconst dJ0_isLatin1_aae02_17 (by unfold InR; decide) ?_
    exact e_zreturn dJ0_isLatin1_aae02_18 rfl (by decide) ⟨_, rfl, hq⟩
  · rw [if_neg c] at hq
    refine e_iconst dJ0_isLatin1_aae02_13 (by unfold InR; decide) ?_
    refine e_goto (tgt := 18) dJ0_isLatin1_aae02_14 (by decide) ?_
    exact e_zreturn dJ0_isLatin1_aae02_18 rfl (by decide) ⟨_, rfl, hq⟩

def vJ3_checkIndex_8e157  (x0 : Int) (x1 : Int) : Int := (if x0 < 0 then 0 else (if x0 < x1 then x0 else 0))
def pJ3_checkIndex_8e157  (x0 : Int) (x1 : Int) : Prop := ((x0 < 0 → False) ∧ (¬ (x0 < 0) → ((x0 < x1 → True) ∧ (¬ (x0 < x1) → False))))
set_option maxRecDepth 100000 in
set_option maxHeartbeats 4000000 in
theorem sJ3_checkIndex_8e157 {G : Gl} {S : Sh} {I : MI} {R : MR} {Q : Sh → MI → MR → Int → Prop} {x0 : Int} {x1 : Int} (hp : pJ3_checkIndex_8e157 x0 x1) (hq : Q S I R (vJ3_checkIndex_8e157 x0 x1)) : CI G MJ3_checkIndex_8e157 [vI x0, vI x1, vO 13] S I R Q := by
  show E G MJ3_checkIndex_8e157 0 [(0, vI x0), (1, vI x1), (2, vO 13)] [] S I R (qI Q)
  unfold vJ3_checkIndex_8e157 at hq
  unfold pJ3_checkIndex_8e157 at hp
  refine e_iload_n 0 dJ3_checkIndex_8e157_0 rfl ?_
  refine e_if_lt (tgt := 9) dJ3_checkIndex_8e157_1 (by decide) (fun c => ?_) (fun c => ?_)
  · rw [if_pos c] at hq
    replace hp := hp.1 c
    refine e_aload_n 2 dJ3_checkIndex_8e157_9 rfl ?_
    refine e_iload_n 0 dJ3_checkIndex_8e157_10 rfl ?_
    refine e_iload_n 1 dJ3_checkIndex_8e157_11 rfl ?_
    exact hp.elim
  · rw [if_neg c] at hq
    replace hp := hp.2 c
    refine e_iload_n 0 dJ3_checkIndex_8e157_4 rfl ?_
    refine e_iload_n 1 dJ3_checkIndex_8e157_5 rfl ?_
    refine e_icmp_lt (tgt := 16) dJ3_checkIndex_8e157_6 (by decide) (fun c => ?_) (fun c => ?_)
    · rw [if_pos c] at hq
      replace hp := hp.1 c
      refine e_iload_n 0 dJ3_checkIndex_8e157_16 rfl ?_
      exact e_ireturn dJ3_checkIndex_8e157_17 rfl ⟨_, rfl, hq⟩
    · rw [if_neg c] at hq
      replace hp := hp.2 c
      refine e_aload_n 2 dJ3_checkIndex_8e157_9 rfl ?_
      refine e_iload_n 0 dJ3_checkIndex_8e157_10 rfl ?_
      refine e_iload_n 1 dJ3_checkIndex_8e157_11 rfl ?_
      exact hp.elim

set_option maxRecDepth 100000 in
set_option maxHeartbeats 4000000 in
theorem bJ0_checkIndex_df160 {G : Gl} {S : Sh} {I : MI} {R : MR} {Q : Sh → MI → MR → Prop} {x0 : Int} {x1 : Int} (h : ((pJ3_checkIndex_8e157 x0 x1) ∧ Q S I R)) : CV G MJ0_checkIndex_df160 [vI x0, vI x1] S I R Q := by
  show E G MJ0_checkIndex_df160 0 [(0, vI x0), (1, vI x1)] [] S I R (qV Q)
  refine e_iload_n 0 dJ0_checkIndex_df160_0 rfl ?_
  refine e_iload_n 1 dJ0_checkIndex_df160_1 rfl ?_
  refine e_getsF dJ0_checkIndex_df160_2 fsJ0_1053 ?_
  have o1 := h.1
  replace h := h.2
  refine i_SI (μ' := MJ3_checkIndex_8e157) (as := [vI x0, vI x1, vO 13]) (st := []) rfl dJ0_checkIndex_df160_5 mOKJ3_checkIndex_8e157 ⟨mlJ0_1059, stJ3_checkIndex_8e157⟩ (by decide) (Nat.le_of_ble_eq_true rfl) rfl (Nat.le_of_ble_eq_true rfl) (sJ3_checkIndex_8e157 o1 ?_)
  refine e_pop dJ0_checkIndex_df160_8 rfl ?_
  exact e_return dJ0_checkIndex_df160_9 rfl ⟨rfl, h⟩

set_option maxRecDepth 100000 in
set_option maxHeartbeats 4000000 in
theorem bJ1_charAt_3b067 {G : Gl} {S : Sh} {I : MI} {R : MR} {Q : Sh → MI → MR → Int → Prop} {x0 : Nat} {x1 : Int} (h : (21 ≤ sT S x0 ∧ (CV G MJ0_checkIndex_df160 [vI x1, vI (sL S x0 : Int)] S I R (fun S3 I3 R3 => (sT S3 x0 = 22 ∧ (((0 : Int) ≤ x1 ∧ x1 < (sL S3 x0 : Int)) ∧ (((0 : Int) ≤ (i2c (iand (I3 x0 (Int.toNat x1)) 255)) ∧ (i2c (iand (I3 x0 (Int.toNat x1)) 255)) < 65536) ∧ Q S3 I3 R3 (i2c (iand (I3 x0 (Int.toNat x1)) 255))))))))) : CI G MJ1_charAt_3b067 [vR x0, vI x1] S I R Q := by
  show E G MJ1_charAt_3b067 0 [(0, vR x0), (1, vI x1)] [] S I R (qI Q)
  refine e_iload_n 1 dJ1_charAt_3b067_0 rfl ?_
  refine e_aload_n 0 dJ1_charAt_3b067_1 rfl ?_
  have o1 := h.1
  replace h := h.2
  refine e_alen dJ1_charAt_3b067_2 o1 ?_
  refine i_SV (μ' := MJ0_checkIndex_df160) (as := [vI x1, vI (sL S x0 : Int)]) (st := []) rfl dJ1_charAt_3b067_3 mOKJ0_checkIndex_df160 ⟨mlJ1_9, stJ0_checkIndex_df160⟩ (by decide) (Nat.le_of_ble_eq_true rfl) rfl (Nat.le_of_ble_eq_true rfl) (CV.mono h ?_)
  clear h
  intro S3 I3 R3 h
  refine e_aload_n 0 dJ1_charAt_3b067_6 rfl ?_
  refine e_iload_n 1 dJ1_charAt_3b067_7 rfl ?_
  have o2 := h.1
  replace h := h.2
  have o3 := h.1
  replace h := h.2
  refine e_bald dJ1_charAt_3b067_8 o2 o3 ?_
  refine e_sipush (x := 255) dJ1_charAt_3b067_9 ⟨by decide +kernel, by unfold InR; decide⟩ ?_
  refine e_iand dJ1_charAt_3b067_12 ?_
  refine e_i2c dJ1_charAt_3b067_13 ?_
  have o4 := h.1
  replace h := h.2
  exact e_creturn dJ1_charAt_3b067_14 rfl o4 ⟨_, rfl, h⟩

set_option maxRecDepth 100000 in
set_option maxHeartbeats 4000000 in
theorem bJ0_charAt_5068e {G : Gl} {S : Sh} {I : MI} {R : MR} {Q : Sh → MI → MR → Int → Prop} {x0 : Nat} {x1 : Int} (h : (sT S x0 = 10 ∧ ((pJ0_isLatin1_aae02 S x0) ∧ (((vJ0_isLatin1_aae02 I x0) = 0 → False) ∧ (¬ ((vJ0_isLatin1_aae02 I x0) = 0) → (CI G MJ1_charAt_3b067 [vR (R x0 0), vI x1] S I R (fun S12 I12 R12 x12_ => (((0 : Int) ≤ x12_ ∧ x12_ < 65536) ∧ Q S12 I12 R12 x12_)))))))) : CI G MJ0_charAt_5068e [vR x0, vI x1] S I R Q := by
  show E G MJ0_charAt_5068e 0 [(0, vR x0), (1, vI x1)] [] S I R (qI Q)
  refine e_aload_n 0 dJ0_charAt_5068e_0 rfl ?_
  have o1 := h.1
  replace h := h.2
  have o2 := h.1
  replace h := h.2
  refine i_VI (μ' := MJ0_isLatin1_aae02) (ci := 9) (r := x0) (as := []) (st := []) rfl dJ0_charAt_5068e_1 mOKJ0_isLatin1_aae02 ⟨mlJ0_492, imJ0_isLatin1_aae02, seJ0_isLatin1_aae02⟩ (by decide) (Nat.le_of_ble_eq_true rfl) rfl (Nat.le_of_ble_eq_true rfl) ⟨by decide, rfl⟩ o1 (sJ0_isLatin1_aae02 o2 ?_)
  refine e_if_eq (tgt := 16) dJ0_charAt_5068e_4 (by decide) (fun c => ?_) (fun c => ?_)
  · replace h := h.1 c
    refine e_aload_n 0 dJ0_charAt_5068e_16 rfl ?_
    refine e_getR dJ0_charAt_5068e_17 flJ0_9 rfl o1 ?_
    refine e_iload_n 1 dJ0_charAt_5068e_20 rfl ?_
    exact h.elim
  · replace h := h.2 c
    refine e_aload_n 0 dJ0_charAt_5068e_7 rfl ?_
    refine e_getR dJ0_charAt_5068e_8 flJ0_9 rfl o1 ?_
    refine e_iload_n 1 dJ0_charAt_5068e_11 rfl ?_
    refine i_SI (μ' := MJ1_charAt_3b067) (as := [vR (R x0 0), vI x1]) (st := []) rfl dJ0_charAt_5068e_12 mOKJ1_charAt_3b067 ⟨mlJ0_495, stJ1_charAt_3b067⟩ (by decide) (Nat.le_of_ble_eq_true rfl) rfl (Nat.le_of_ble_eq_true rfl) (CI.mono h ?_)
    clear h
    intro S12 I12 R12 x12_ h
    have o3 := h.1
    replace h := h.2
    exact e_creturn dJ0_charAt_5068e_15 rfl o3 ⟨_, rfl, h⟩

def LJ1_equals_b5fdf_9 (G : Gl) (x0 : Nat) (x1 : Nat) (x2 : Int) (S : Sh) (I : MI) (R : MR) (Q : Sh → MI → MR → Int → Prop) : Prop := E G MJ1_equals_b5fdf 9 [(0, vR x0), (1, vR x1), (2, vI x2)] [] S I R (qI Q)
set_option maxRecDepth 100000 in
set_option maxHeartbeats 4000000 in
theorem bJ1_equals_b5fdf {G : Gl} {S : Sh} {I : MI} {R : MR} {Q : Sh → MI → MR → Int → Prop} {x0 : Nat} {x1 : Nat} (h : (21 ≤ sT S x0 ∧ (21 ≤ sT S x1 ∧ (((sL S x0 : Int) ≠ (sL S x1 : Int) → Q S I R 0) ∧ (¬ ((sL S x0 : Int) ≠ (sL S x1 : Int)) → LJ1_equals_b5fdf_9 G x0 x1 0 S I R Q))))) : CI G MJ1_equals_b5fdf [vR x0, vR x1] S I R Q := by
  show E G MJ1_equals_b5fdf 0 [(0, vR x0), (1, vR x1)] [] S I R (qI Q)
  refine e_aload_n 0 dJ1_equals_b5fdf_0 rfl ?_
  have o1 := h.1
  replace h := h.2
  refine e_alen dJ1_equals_b5fdf_1 o1 ?_
  refine e_aload_n 1 dJ1_equals_b5fdf_2 rfl ?_
  have o2 := h.1
  replace h := h.2
  refine e_alen dJ1_equals_b5fdf_3 o2 ?_
  refine e_icmp_ne (tgt := 34) dJ1_equals_b5fdf_4 (by decide) (fun c => ?_) (fun c => ?_)
  · replace h := h.1 c
    refine e_iconst dJ1_equals_b5fdf_34 (by unfold InR; decide) ?_
    exact e_zreturn dJ1_equals_b5fdf_35 rfl (by decide) ⟨_, rfl, h⟩
  · replace h := h.2 c
    refine e_iconst dJ1_equals_b5fdf_7 (by unfold InR; decide) ?_
    refine e_istore_n (ls2 := [(2, vI 0), (0, vR x0), (1, vR x1)]) dJ1_equals_b5fdf_8 (by decide) rfl ?_
    exact e_sub (ls2 := [(0, vR x0), (1, vR x1), (2, vI 0)]) [1, 2, 0] rfl h
set_option maxRecDepth 100000 in
set_option maxHeartbeats 4000000 in
theorem bJ1_equals_b5fdf_9 {G : Gl} {S : Sh} {I : MI} {R : MR} {Q : Sh → MI → MR → Int → Prop} {x0 : Nat} {x1 : Nat} {x2 : Int} (h : (21 ≤ sT S x0 ∧ (((sL S x0 : Int) ≤ x2 → Q S I R 1) ∧ (¬ ((sL S x0 : Int) ≤ x2) → (sT S x0 = 22 ∧ (((0 : Int) ≤ x2 ∧ x2 < (sL S x0 : Int)) ∧ (sT S x1 = 22 ∧ (((0 : Int) ≤ x2 ∧ x2 < (sL S x1 : Int)) ∧ (((I x0 (Int.toNat x2)) = (I x1 (Int.toNat x2)) → LJ1_equals_b5fdf_9 G x0 x1 (w32 (x2 + 1)) S I R Q) ∧ (¬ ((I x0 (Int.toNat x2)) = (I x1 (Int.toNat x2))) → Q S I R 0)))))))))) : LJ1_equals_b5fdf_9 G x0 x1 x2 S I R Q := by
  show E G MJ1_equals_b5fdf 9 [(0, vR x0), (1, vR x1), (2, vI x2)] [] S I R (qI Q)
  refine e_iload_n 2 dJ1_equals_b5fdf_9 rfl ?_
  refine e_aload_n 0 dJ1_equals_b5fdf_10 rfl ?_
  have o3 := h.1
  replace h := h.2
  refine e_alen dJ1_equals_b5fdf_11 o3 ?_
  refine e_icmp_ge (tgt := 32) dJ1_equals_b5fdf_12 (by decide) (fun c => ?_) (fun c => ?_)
  · replace h := h.1 c
    refine e_iconst dJ1_equals_b5fdf_32 (by unfold InR; decide) ?_
    exact e_zreturn dJ1_equals_b5fdf_33 rfl (by decide) ⟨_, rfl, h⟩
  · replace h := h.2 c
    refine e_aload_n 0 dJ1_equals_b5fdf_15 rfl ?_
    refine e_iload_n 2 dJ1_equals_b5fdf_16 rfl ?_
    have o4 := h.1
    replace h := h.2
    have o5 := h.1
    replace h := h.2
    refine e_bald dJ1_equals_b5fdf_17 o4 o5 ?_
    refine e_aload_n 1 dJ1_equals_b5fdf_18 rfl ?_
    refine e_iload_n 2 dJ1_equals_b5fdf_19 rfl ?_
    have o6 := h.1
    replace h := h.2
    have o7 := h.1
    replace h := h.2
    refine e_bald dJ1_equals_b5fdf_20 o6 o7 ?_
    refine e_icmp_eq (tgt := 26) dJ1_equals_b5fdf_21 (by decide) (fun c => ?_) (fun c => ?_)
    · replace h := h.1 c
      refine e_iinc (ls2 := [(2, vI (w32 (x2 + 1))), (0, vR x0), (1, vR x1)]) 2 dJ1_equals_b5fdf_26 rfl (by decide) rfl ?_
      refine e_goto (tgt := 9) dJ1_equals_b5fdf_29 (by decide) ?_
      exact e_sub (ls2 := [(0, vR x0), (1, vR x1), (2, vI (w32 (x2 + 1)))]) [1, 2, 0] rfl h
    · replace h := h.2 c
      refine e_iconst dJ1_equals_b5fdf_24 (by unfold InR; decide) ?_
      exact e_zreturn dJ1_equals_b5fdf_25 rfl (by decide) ⟨_, rfl, h⟩

def LJ0_equals_9ea2d_36 (G : Gl) (x0 : Nat) (x2 : Nat) (S : Sh) (I : MI) (R : MR) (Q : Sh → MI → MR → Int → Prop) : Prop := E G MJ0_equals_9ea2d 36 [(0, vR x0), (2, vR x2)] [] S I R (qI Q)
set_option maxRecDepth 100000 in
set_option maxHeartbeats 4000000 in
theorem bJ0_equals_9ea2d {G : Gl} {S : Sh} {I : MI} {R : MR} {Q : Sh → MI → MR → Int → Prop} {x0 : Nat} {x1 : Nat} (h : ((x0 ≠ x1 → (sT S x1 = 10 ∧ (sT S x0 = 10 ∧ (((I x0 1) ≠ (I x1 1) → Q S I R 0) ∧ (¬ ((I x0 1) ≠ (I x1 1)) → LJ0_equals_9ea2d_36 G x0 x1 S I R Q))))) ∧ (¬ (x0 ≠ x1) → Q S I R 1))) : CI G MJ0_equals_9ea2d [vR x0, vR x1] S I R Q := by
  show E G MJ0_equals_9ea2d 0 [(0, vR x0), (1, vR x1)] [] S I R (qI Q)
  refine e_aload_n 0 dJ0_equals_9ea2d_0 rfl ?_
  refine e_aload_n 1 dJ0_equals_9ea2d_1 rfl ?_
  refine e_acmp_ne (tgt := 7) dJ0_equals_9ea2d_2 (by decide) (fun c => ?_) (fun c0 => ?_)
  · replace h := h.1 c
    refine e_aload_n 1 dJ0_equals_9ea2d_7 rfl ?_
    have o1 := h.1
    replace h := h.2
    refine e_instS dJ0_equals_9ea2d_8 clJ0_10 o1 ?_
    refine e_if_eq (tgt := 54) dJ0_equals_9ea2d_11 (by decide) (fun c => absurd c (by decide)) (fun _ => ?_)
    refine e_aload_n 1 dJ0_equals_9ea2d_14 rfl ?_
    refine e_castS dJ0_equals_9ea2d_15 clJ0_10 o1 ?_
    refine e_astore_n (ls2 := [(2, vR x1), (0, vR x0), (1, vR x1)]) dJ0_equals_9ea2d_18 (by decide) rfl ?_
    refine e_getsC dJ0_equals_9ea2d_19 fsJ0_38 ?_
    refine e_if_eq (tgt := 36) dJ0_equals_9ea2d_22 (by decide) (fun c => absurd c (by decide)) (fun _ => ?_)
    refine e_aload_n 1 dJ0_equals_9ea2d_25 rfl ?_
    have o2 := h.1
    replace h := h.2
    refine e_getI dJ0_equals_9ea2d_26 flJ0_15 rfl o2 ?_
    refine e_aload_n 0 dJ0_equals_9ea2d_29 rfl ?_
    refine e_getI dJ0_equals_9ea2d_30 flJ0_15 rfl o1 ?_
    refine e_icmp_ne (tgt := 54) dJ0_equals_9ea2d_33 (by decide) (fun c => ?_) (fun c => ?_)
    · replace h := h.1 c
      refine e_iconst dJ0_equals_9ea2d_54 (by unfold InR; decide) ?_
      exact e_zreturn dJ0_equals_9ea2d_55 rfl (by decide) ⟨_, rfl, h⟩
    · replace h := h.2 c
      exact e_sub (ls2 := [(0, vR x0), (2, vR x1)]) [1, 0] rfl h
  · replace h := h.2 (fun q => q c0)
    refine e_iconst dJ0_equals_9ea2d_5 (by unfold InR; decide) ?_
    exact e_zreturn dJ0_equals_9ea2d_6 rfl (by decide) ⟨_, rfl, h⟩
set_option maxRecDepth 100000 in
set_option maxHeartbeats 4000000 in
theorem bJ0_equals_9ea2d_36 {G : Gl} {S : Sh} {I : MI} {R : MR} {Q : Sh → MI → MR → Int → Prop} {x0 : Nat} {x2 : Nat} (h : (sT S x0 = 10 ∧ (sT S x2 = 10 ∧ (CI G MJ1_equals_b5fdf [vR (R x0 0), vR (R x2 0)] S I R (fun S44 I44 R44 x44_ => ((x44_ = 0 → Q S44 I44 R44 0) ∧ (¬ (x44_ = 0) → Q S44 I44 R44 1))))))) : LJ0_equals_9ea2d_36 G x0 x2 S I R Q := by
  show E G MJ0_equals_9ea2d 36 [(0, vR x0), (2, vR x2)] [] S I R (qI Q)
  refine e_aload_n 0 dJ0_equals_9ea2d_36 rfl ?_
  have o3 := h.1
  replace h := h.2
  refine e_getR dJ0_equals_9ea2d_37 flJ0_9 rfl o3 ?_
  refine e_aload_n 1 dJ0_equals_9ea2d_40 rfl ?_
  have o4 := h.1
  replace h := h.2
  refine e_getR dJ0_equals_9ea2d_41 flJ0_9 rfl o4 ?_
  refine i_SI (μ' := MJ1_equals_b5fdf) (as := [vR (R x0 0), vR (R x2 0)]) (st := []) rfl dJ0_equals_9ea2d_44 mOKJ1_equals_b5fdf ⟨mlJ0_541, stJ1_equals_b5fdf⟩ (by decide) (Nat.le_of_ble_eq_true rfl) rfl (Nat.le_of_ble_eq_true rfl) (CI.mono h ?_)
  clear h
  intro S44 I44 R44 x44_ h
  refine e_if_eq (tgt := 54) dJ0_equals_9ea2d_47 (by decide) (fun c => ?_) (fun c => ?_)
  · replace h := h.1 c
    refine e_iconst dJ0_equals_9ea2d_54 (by unfold InR; decide) ?_
    exact e_zreturn dJ0_equals_9ea2d_55 rfl (by decide) ⟨_, rfl, h⟩
  · replace h := h.2 c
    refine e_iconst dJ0_equals_9ea2d_50 (by unfold InR; decide) ?_
    refine e_goto (tgt := 55) dJ0_equals_9ea2d_51 (by decide) ?_
    exact e_zreturn dJ0_equals_9ea2d_55 rfl (by decide) ⟨_, rfl, h⟩

set_option maxRecDepth 100000 in
set_option maxHeartbeats 4000000 in
theorem bJ4_init_da8c8 {G : Gl} {S : Sh} {I : MI} {R : MR} {Q : Sh → MI → MR → Prop} {x0 : Nat} (h : (sT S x0 ≠ 0 ∧ (CV G MJ5_init_d00df [vR x0, vI 16] S I R (fun S3 I3 R3 => Q S3 I3 R3)))) : CV G MJ4_init_da8c8 [vR x0] S I R Q := by
  show E G MJ4_init_da8c8 0 [(0, vR x0)] [] S I R (qV Q)
  refine e_aload_n 0 dJ4_init_da8c8_0 rfl ?_
  refine e_bipush (x := 16) dJ4_init_da8c8_1 ⟨by decide +kernel, by unfold InR; decide⟩ ?_
  have o1 := h.1
  replace h := h.2
  refine i_IV (μ' := MJ5_init_d00df) (r := x0) (as := [vI 16]) (st := []) rfl dJ4_init_da8c8_3 mOKJ5_init_d00df ⟨mlJ4_1, imJ5_init_d00df⟩ ⟨rfl, rfl⟩ (by decide) (Nat.le_of_ble_eq_true rfl) rfl (Nat.le_of_ble_eq_true rfl) o1 (CV.mono h ?_)
  clear h
  intro S3 I3 R3 h
  exact e_return dJ4_init_da8c8_6 rfl ⟨rfl, h⟩

set_option maxRecDepth 100000 in
set_option maxHeartbeats 4000000 in
theorem bJ4_append_15ec4 {G : Gl} {S : Sh} {I : MI} {R : MR} {Q : Sh → MI → MR → Nat → Prop} {x0 : Nat} {x1 : Nat} (h : (sT S x0 = 11 ∧ (CR G MJ5_append_cf1ce [vR x0, vO (x1 + 1)] S I R (fun S2 I2 R2 x2_ => Q S2 I2 R2 x0)))) : CR G MJ4_append_15ec4 [vR x0, vO (x1 + 1)] S I R Q := by
  show E G MJ4_append_15ec4 0 [(0, vR x0), (1, vO (x1 + 1))] [] S I R (qR Q)
  refine e_aload_n 0 dJ4_append_15ec4_0 rfl ?_
  refine e_aload_n 1 dJ4_append_15ec4_1 rfl ?_
  have o1 := h.1
  replace h := h.2
  refine i_SUR (μ' := MJ5_append_cf1ce) (r := x0) (as := [vO (x1 + 1)]) (st := []) rfl dJ4_append_15ec4_2 mOKJ5_append_cf1ce (by decide) ⟨mlJ4_29, imJ5_append_cf1ce, ssJ5_append_cf1ce⟩ (by decide) (Nat.le_of_ble_eq_true rfl) rfl (Nat.le_of_ble_eq_true rfl) rfl o1 (CR.mono h ?_)
  clear h
  intro S2 I2 R2 x2_ h
  refine e_pop dJ4_append_15ec4_5 rfl ?_
  refine e_aload_n 0 dJ4_append_15ec4_6 rfl ?_
  exact e_areturn (C := "") dJ4_append_15ec4_7 ⟨_, rfl⟩ ⟨_, rfl, h⟩

set_option maxRecDepth 100000 in
set_option maxHeartbeats 4000000 in
theorem bJ4_append_cf468 {G : Gl} {S : Sh} {I : MI} {R : MR} {Q : Sh → MI → MR → Nat → Prop} {x0 : Nat} {x1 : Int} (h : (sT S x0 = 11 ∧ (CR G MJ5_append_3fe6f [vR x0, vI x1] S I R (fun S2 I2 R2 x2_ => Q S2 I2 R2 x0)))) : CR G MJ4_append_cf468 [vR x0, vI x1] S I R Q := by
  show E G MJ4_append_cf468 0 [(0, vR x0), (1, vI x1)] [] S I R (qR Q)
  refine e_aload_n 0 dJ4_append_cf468_0 rfl ?_
  refine e_iload_n 1 dJ4_append_cf468_1 rfl ?_
  have o1 := h.1
  replace h := h.2
  refine i_SUR (μ' := MJ5_append_3fe6f) (r := x0) (as := [vI x1]) (st := []) rfl dJ4_append_cf468_2 mOKJ5_append_3fe6f (by decide) ⟨mlJ4_50, imJ5_append_3fe6f, ssJ5_append_3fe6f⟩ (by decide) (Nat.le_of_ble_eq_true rfl) rfl (Nat.le_of_ble_eq_true rfl) rfl o1 (CR.mono h ?_)
  clear h
  intro S2 I2 R2 x2_ h
  refine e_pop dJ4_append_cf468_5 rfl ?_
  refine e_aload_n 0 dJ4_append_cf468_6 rfl ?_
  exact e_areturn (C := "") dJ4_append_cf468_7 ⟨_, rfl⟩ ⟨_, rfl, h⟩

set_option maxRecDepth 100000 in
set_option maxHeartbeats 4000000 in
theorem bJ4_append_bf812 {G : Gl} {S : Sh} {I : MI} {R : MR} {Q : Sh → MI → MR → Nat → Prop} {x0 : Nat} {x1 : Int} (h : (sT S x0 = 11 ∧ (CR G MJ5_append_c97b9 [vR x0, vI x1] S I R (fun S2 I2 R2 x2_ => Q S2 I2 R2 x0)))) : CR G MJ4_append_bf812 [vR x0, vI x1] S I R Q := by
  show E G MJ4_append_bf812 0 [(0, vR x0), (1, vI x1)] [] S I R (qR Q)
  refine e_aload_n 0 dJ4_append_bf812_0 rfl ?_
  refine e_iload_n 1 dJ4_append_bf812_1 rfl ?_
  have o1 := h.1
  replace h := h.2
  refine i_SUR (μ' := MJ5_append_c97b9) (r := x0) (as := [vI x1]) (st := []) rfl dJ4_append_bf812_2 mOKJ5_append_c97b9 (by decide) ⟨mlJ4_53, imJ5_append_c97b9, ssJ5_append_c97b9⟩ (by decide) (Nat.le_of_ble_eq_true rfl) rfl (Nat.le_of_ble_eq_true rfl) rfl o1 (CR.mono h ?_)
  clear h
  intro S2 I2 R2 x2_ h
  refine e_pop dJ4_append_bf812_5 rfl ?_
  refine e_aload_n 0 dJ4_append_bf812_6 rfl ?_
  exact e_areturn (C := "") dJ4_append_bf812_7 ⟨_, rfl⟩ ⟨_, rfl, h⟩

set_option maxRecDepth 100000 in
set_option maxHeartbeats 4000000 in
theorem bJ4_toString_0e30d {G : Gl} {S : Sh} {I : MI} {R : MR} {Q : Sh → MI → MR → Nat → Prop} {x0 : Nat} (h : (∀ S0 I0 R0, S0 = shNew S 10 0 4 → I0 = mNew I (sN S) 0 → R0 = mNew R (sN S) 0 → (sT S0 (sN S) ≠ 0 ∧ (CV G MJ0_init_81219 [vR (sN S), vR x0] S0 I0 R0 (fun S5 I5 R5 => Q S5 I5 R5 (sN S)))))) : CR G MJ4_toString_0e30d [vR x0] S I R Q := by
  show E G MJ4_toString_0e30d 0 [(0, vR x0)] [] S I R (qR Q)
  obtain ⟨S0, eS0⟩ : ∃ z : Sh, z = shNew S 10 0 4 := ⟨_, rfl⟩
  obtain ⟨I0, eI0⟩ : ∃ z : MI, z = mNew I (sN S) 0 := ⟨_, rfl⟩
  obtain ⟨R0, eR0⟩ : ∃ z : MR, z = mNew R (sN S) 0 := ⟨_, rfl⟩
  replace h := h S0 I0 R0 eS0 eI0 eR0
  refine e_new (ci := 9) dJ4_toString_0e30d_0 (by decide) ⟨clJ4_18, is9, ii9⟩ (eqS eS0 (eqI eI0 (eqR eR0 ?_)))
  refine e_dup dJ4_toString_0e30d_3 rfl ?_
  refine e_aload_n 0 dJ4_toString_0e30d_4 rfl ?_
  have o1 := h.1
  replace h := h.2
  refine i_IV (μ' := MJ0_init_81219) (r := (sN S)) (as := [vR x0]) (st := [vR (sN S)]) rfl dJ4_toString_0e30d_5 mOKJ0_init_81219 ⟨mlJ4_137, imJ0_init_81219⟩ ⟨rfl, rfl⟩ (by decide) (Nat.le_of_ble_eq_true rfl) rfl (Nat.le_of_ble_eq_true rfl) o1 (CV.mono h ?_)
  clear h
  intro S5 I5 R5 h
  exact e_areturn (C := "") dJ4_toString_0e30d_8 ⟨_, rfl⟩ ⟨_, rfl, h⟩
end
