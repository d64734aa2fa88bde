/-! ===== THE WALK: values, shapes, cells ===== -/
abbrev PV : Type := (Int ⊕ Int) ⊕ (Nat ⊕ Nat)
abbrev vI (x : Int) : PV := Sum.inl (Sum.inl x)
abbrev vL (x : Int) : PV := Sum.inl (Sum.inr x)
abbrev vR (r : Nat) : PV := Sum.inr (Sum.inl r)
abbrev vO (k : Nat) : PV := Sum.inr (Sum.inr k)
abbrev vS : PV := Sum.inr (Sum.inr 0)
def InR (x : Int) : Prop := -2147483648 ≤ x ∧ x < 2147483648
def InL (x : Int) : Prop := -9223372036854775808 ≤ x ∧ x < 9223372036854775808
def w32 (x : Int) : Int := (Int32.ofInt x).toInt
def w64 (x : Int) : Int := (Int64.ofInt x).toInt
theorem InR_toInt (x : Int32) : InR x.toInt := ⟨x.le_toInt, x.toInt_lt⟩
theorem InL_toInt (x : Int64) : InL x.toInt := ⟨x.le_toInt, x.toInt_lt⟩
theorem InR.L {x : Int} (h : InR x) : InL x := by unfold InR at h; unfold InL; omega
theorem w32_id {x : Int} (h : -2147483648 ≤ x ∧ x < 2147483648) : w32 x = x := Int32.toInt_ofInt_of_le h.1 h.2
theorem w64_id {x : Int} (h : -9223372036854775808 ≤ x ∧ x < 9223372036854775808) : w64 x = x := Int64.toInt_ofInt_of_le h.1 h.2
theorem o32 {x : Int} (h : InR x) : (Int32.ofInt x).toInt = x := Int32.toInt_ofInt_of_le h.1 h.2
theorem o64 {x : Int} (h : InL x) : (Int64.ofInt x).toInt = x := Int64.toInt_ofInt_of_le h.1 h.2
theorem o32w (x : Int) : Int32.ofInt (w32 x) = Int32.ofInt x := Int32.ofInt_toInt _
theorem o64w (x : Int) : Int64.ofInt (w64 x) = Int64.ofInt x := Int64.ofInt_toInt _
def iand (x y : Int) : Int := (Int32.ofInt x &&& Int32.ofInt y).toInt
def ior (x y : Int) : Int := (Int32.ofInt x ||| Int32.ofInt y).toInt
def ixor (x y : Int) : Int := (Int32.ofInt x ^^^ Int32.ofInt y).toInt
def ishl (x y : Int) : Int := (Int32.ofInt x <<< (Int32.ofInt y &&& 31)).toInt
def ishr (x y : Int) : Int := (Int32.ofInt x >>> (Int32.ofInt y &&& 31)).toInt
def iushr (x y : Int) : Int := ((Int32.ofInt x).toUInt32 >>> ((Int32.ofInt y).toUInt32 &&& Int32.toUInt32 31)).toInt32.toInt
def irem (x y : Int) : Int := (Int32.ofInt x - Int32.ofInt x / Int32.ofInt y * Int32.ofInt y).toInt
def idiv (x y : Int) : Int := (Int32.ofInt x / Int32.ofInt y).toInt
def lrem (x y : Int) : Int := (Int64.ofInt x - Int64.ofInt x / Int64.ofInt y * Int64.ofInt y).toInt
def i2b (x : Int) : Int := (Int32.ofInt x).toInt8.toInt32.toInt
def lcmp (x y : Int) : Int := (lg_cmp (Int64.ofInt x) (Int64.ofInt y)).toInt
abbrev Gl : Type := Nat × Nat × Nat × (Nat → Int32) × va_G × List (ClassId × FieldType) × (Nat → Option Nat)
def gB (G : Gl) : Nat := G.1
def gb (G : Gl) : Nat := G.2.1
def gL (G : Gl) : Nat := G.2.2.1
def gX (G : Gl) : Nat → Int32 := G.2.2.2.1
def gD (G : Gl) : va_G := G.2.2.2.2.1
def gT (G : Gl) : List (ClassId × FieldType) := G.2.2.2.2.2.1
/-- what was there before: the script (0), the constants of text (1 .. 6), their bytes (7 .. 12), a formatter (13) -/
def gO (G : Gl) (k : Nat) : Option Nat := if k = 0 then some (gb G) else G.2.2.2.2.2.2 (k - 1)
def gA (G : Gl) (k : Nat) : Nat := (gO G k).getD 0
def mv (G : Gl) : PV → Value
  | .inl (.inl x) => .int (Int32.ofInt x)
  | .inl (.inr x) => .long (Int64.ofInt x)
  | .inr (.inr k) => va_rf (gO G k)
  | .inr (.inl 0) => .null
  | .inr (.inl (k + 1)) => .ref (gB G + k)
theorem mv_old (G : Gl) (k : Nat) : mv G (vO k) = .null ∨ ∃ a, mv G (vO k) = .ref a := by
  show va_rf (gO G k) = .null ∨ ∃ a, va_rf (gO G k) = .ref a
  cases gO G k with
  | none => exact Or.inl rfl
  | some a => exact Or.inr ⟨a, rfl⟩
theorem mv_ref (G : Gl) {r : Nat} (h : 1 ≤ r) : mv G (vR r) = .ref (gB G + (r - 1)) := by
  obtain ⟨k, rfl⟩ : ∃ k, r = k + 1 := ⟨r - 1, by omega⟩
  rfl
def vok : PV → Prop
  | .inl (.inl x) => InR x
  | .inl (.inr x) => InL x
  | .inr _ => True
def pcat : PV → Nat
  | .inl (.inr _) => 2
  | _ => 1
theorem mv_cat (G : Gl) (v : PV) : (mv G v).category = pcat v := by
  match v with
  | .inl (.inl _) => rfl
  | .inl (.inr _) => rfl
  | .inr (.inr k) => show (va_rf (gO G k)).category = 1; cases gO G k <;> rfl
  | .inr (.inl 0) => rfl
  | .inr (.inl (_ + 1)) => rfl
-- shapes: the next cell, the slots used, the kind of each cell (ci + 1: of class ci; 21 ..: arrays), its length
abbrev Sh : Type := Nat × Nat × (Nat → Nat) × (Nat → Nat)
def sN (S : Sh) : Nat := S.1
def sU (S : Sh) : Nat := S.2.1
def sT (S : Sh) : Nat → Nat := S.2.2.1
def sL (S : Sh) : Nat → Nat := S.2.2.2
abbrev MI : Type := Nat → Nat → Int
abbrev MR : Type := Nat → Nat → Nat
def clTy (ci : Nat) : Nat → FieldType := match ci with
  | 0 => tyX0 | 1 => tyX1 | 2 => tyX2 | 3 => tyX4 | 4 => tyX5 | 5 => tyX6 | 6 => tyX7 | 7 => tyX8 | 8 => tyX9 | 9 => tyJ0 | _ => tyJ4
def clN (ci : Nat) : Nat := match ci with
  | 0 => 9 | 1 => 3 | 2 => 4 | 3 => 1 | 4 => 3 | 5 => 7 | 6 => 8 | 7 => 2 | 8 => 11 | 9 => 4 | _ => 4
def atyL : List FieldType := [.int, .byte, .int, .object RX5, .object RX1, .object RX2, .array .int]
def rvo (G : Gl) : Nat → Option Nat
  | 0 => none
  | k + 1 => some (gB G + k)
theorem rvo_rf (G : Gl) (r : Nat) : va_rf (rvo G r) = mv G (vR r) := by cases r <;> rfl
def fval (G : Gl) (ty : FieldType) (x : Int) (r : Nat) : Value := match ty with
  | .long => .long (Int64.ofInt x)
  | .object _ => mv G (vR r)
  | .array _ => mv G (vR r)
  | _ => .int (Int32.ofInt x)
def irng (ty : FieldType) (x : Int) : Prop := match ty with
  | .long => InL x
  | .byte => -128 ≤ x ∧ x < 128
  | .boolean => x = 0 ∨ x = 1
  | _ => InR x
def ety (t j : Nat) : FieldType := if t ≤ 20 then clTy (t - 1) j else atyL.getD (t - 21) .int
def cellE (G : Gl) (t len : Nat) (x : Nat → Int) (r : Nat → Nat) : va_E :=
  if t ≤ 20 then .inr (t - 1, (List.range (clN (t - 1))).map (fun j => fval G (clTy (t - 1) j) (x j) (r j)))
  else .inl (((gT G).getD (t - 21) (0, .int)).1, len, if t ≤ 23 then .inl (fun j => Int32.ofInt (x j)) else .inr (.inr (.inr (.inr (fun j => rvo G (r j))))))
def wsOf (G : Gl) (S : Sh) (I : MI) (R : MR) : va_W := (List.range (sN S - 1)).map (fun k => (gB G + k, cellE G (sT S (k + 1)) (sL S (k + 1)) (I (k + 1)) (R (k + 1))))
theorem wsOf_len (G : Gl) (S : Sh) (I : MI) (R : MR) : (wsOf G S I R).length = sN S - 1 := by simp [wsOf]
theorem wsOf_get (G : Gl) {S : Sh} (I : MI) (R : MR) {a : Nat} (h1 : 1 ≤ a) (h2 : a < sN S) : (wsOf G S I R)[a - 1]? = some (gB G + (a - 1), cellE G (sT S a) (sL S a) (I a) (R a)) := by
  obtain ⟨k, rfl⟩ : ∃ k, a = k + 1 := ⟨a - 1, by omega⟩
  unfold wsOf
  rw [Nat.add_sub_cancel, List.getElem?_map, List.getElem?_range (by omega)]
  rfl
theorem wsOf_set (G : Gl) {S : Sh} {I I' : MI} {R R' : MR} {a : Nat} (h1 : 1 ≤ a) (h2 : a < sN S) (hI : ∀ k, k ≠ a → I' k = I k) (hR : ∀ k, k ≠ a → R' k = R k) {e : va_E} (he : e = cellE G (sT S a) (sL S a) (I' a) (R' a)) : (wsOf G S I R).set (a - 1) (gB G + (a - 1), e) = wsOf G S I' R' := by
  apply List.ext_getElem?
  intro k
  by_cases hk : k = a - 1
  · subst hk
    rw [List.getElem?_set_self (by rw [wsOf_len]; omega), wsOf_get G I' R' h1 h2, he]
  · rw [List.getElem?_set_ne (Ne.symm hk)]
    by_cases hl : k < sN S - 1
    · rw [show k = (k + 1) - 1 by omega, wsOf_get G I R (by omega) (by omega), wsOf_get G I' R' (by omega) (by omega), hI _ (by omega), hR _ (by omega)]
    · rw [List.getElem?_eq_none (by rw [wsOf_len]; omega), List.getElem?_eq_none (by rw [wsOf_len]; omega)]
theorem wsOf_push (G : Gl) {S S' : Sh} {I I' : MI} {R R' : MR} (h0 : 1 ≤ sN S) (hn : sN S' = sN S + 1) (hT : ∀ k, k < sN S → sT S' k = sT S k) (hL : ∀ k, k < sN S → sL S' k = sL S k) (hI : ∀ k, k < sN S → I' k = I k) (hR : ∀ k, k < sN S → R' k = R k) :
    wsOf G S' I' R' = wsOf G S I R ++ [(gB G + (sN S - 1), cellE G (sT S' (sN S)) (sL S' (sN S)) (I' (sN S)) (R' (sN S)))] := by
  unfold wsOf
  rw [hn, show sN S + 1 - 1 = (sN S - 1) + 1 by omega, List.range_succ, List.map_append]
  congr 1
  · apply List.map_congr_left
    intro k hk
    have hk := List.mem_range.mp hk
    rw [hT _ (by omega), hL _ (by omega), hI _ (by omega), hR _ (by omega)]
  · simp only [List.map_cons, List.map_nil, show sN S - 1 + 1 = sN S by omega]
theorem wsOf_D (G : Gl) (S : Sh) (I : MI) (R : MR) : va_D (fun q => gB G ≤ q) (wsOf G S I R) := by
  have h : ∀ (i : Nat) (p : Nat × va_E), (wsOf G S I R)[i]? = some p → p.1 = gB G + i := by
    intro i p hp
    have hl := (List.getElem?_eq_some_iff.mp hp).1
    rw [wsOf_len] at hl
    have := wsOf_get G (S := S) I R (a := i + 1) (by omega) (by omega)
    rw [show i + 1 - 1 = i by omega, hp] at this
    rw [Option.some.inj this]
  refine ⟨fun i j p q hp hq e => ?_, fun k q hq => ?_⟩
  · have h1 := h i p hp
    have h2 := h j q hq
    omega
  · have h1 := h k q hq
    show gB G ≤ q.1
    omega
def okS (S : Sh) : Prop := 1 ≤ sN S ∧ ∀ a, sT S a ≠ 0 → 1 ≤ a ∧ a < sN S ∧ (sT S a ≤ 11 ∨ (21 ≤ sT S a ∧ sT S a ≤ 27)) ∧ sL S a < 2147483648
def okI (S : Sh) (I : MI) : Prop := ∀ a j, irng (ety (sT S a) j) (I a j)
def MRel (G : Gl) (S : Sh) (I : MI) (R : MR) (Hm : Heap) : Prop := va_P (gD G) vwCl (wsOf G S I R) Hm ∧ Hm.size = gB G + (sN S - 1)
-- a method: its class, name, code, locals, answer, rank (its calls have lesser ones)
abbrev MB : Type := String × MethodName × ByteArray × Nat × Option FieldType × Nat × Nat
abbrev mO (μ : MB) : String := μ.1
abbrev mY (μ : MB) : MethodName := μ.2.1
abbrev mC (μ : MB) : ByteArray := μ.2.2.1
abbrev mL (μ : MB) : Nat := μ.2.2.2.1
abbrev mR (μ : MB) : Option FieldType := μ.2.2.2.2.1
abbrev mK (μ : MB) : Nat := μ.2.2.2.2.2.1
abbrev mW (μ : MB) : Nat := μ.2.2.2.2.2.2
/-- the tables' words that hold through every call; those of the nest, of arrays over references -/
def lw_xs : List Cond := [yJ5_newCapacity_0f7a4, yJ5_inflateIfNeededFor_a7421, yJ5_ensureCapacityInternal_d00df, yJ5_putStringAt_47b60].map (fun y => Cond.selects RJ4 y y)
def lw_t2 : List Cond := lw_tbl.filter goodWord ++ lw_xs
theorem lw_xg : ∀ w ∈ lw_xs, goodWord w = true := by decide +kernel
theorem lw_gd {w : Cond} (h : w ∈ lw_t2) : goodWord w = true := (List.mem_append.mp h).elim (fun h => (List.mem_filter.mp h).2) (lw_xg w)
theorem lw_ex {w : Cond} (h : w ∈ lw_xs) : w ∈ lw_t2 := List.mem_append_right _ h
theorem lw_in {w : Cond} (i : Nat) (h : lw_tbl[i]? = some w) (hg : goodWord w = true) : w ∈ lw_t2 := List.mem_append_left _ (List.mem_filter.mpr ⟨List.mem_of_getElem? h, hg⟩)
def isNest : Cond → Bool
  | .methodLinkNest .. => true
  | _ => false
def lw_n : List Cond := lw_tbl.filter isNest
theorem lw_nin {w : Cond} (i : Nat) (h : lw_tbl[i]? = some w) (hg : isNest w = true) : w ∈ lw_n := List.mem_filter.mpr ⟨List.mem_of_getElem? h, hg⟩
def va_A2 (U : State) : Prop := (Cond.arrayOver (.array .int)).before #[] U = true
def ExA (U : State) : Prop := (∀ w ∈ lw_n, va_Nw w U) ∧ va_AO RX5 U ∧ va_AO RX1 U ∧ va_AO RX2 U ∧ va_A2 U ∧ va_Nw (.castable "[B" "java/lang/Cloneable") U
/-- the constants of text: "", "+", "-", "x^", "y^", "z^" -/
def litLen : List Nat := [0, 1, 1, 2, 2, 2]
def litByt : List (List Int32) := [[], [43], [45], [120, 94], [121, 94], [122, 94]]
def litIx : List Nat := [56, 58, 60, 68, 70, 72]
def litTx : List String := ["", "+", "-", "x^", "y^", "z^"]
/-- what stands unchanged of what was there before -/
def va_Old (G : Gl) (U : State) (H : Heap) : Prop :=
  vk_S 6 litLen litByt (fun i => gA G (i + 1)) (fun i => gA G (i + 7)) (fun q => gB G ≤ q) U H ∧ (∀ i, i < 6 → vk_R RL (litIx.getD i 0) (litTx.getD i "") (gA G (i + 1)) U) ∧
  va_Z "java/lang/String" "COMPACT_STRINGS" "Z" (.int 1) (fun q => gB G ≤ q) U H ∧ va_Z "jdk/internal/util/Preconditions" "SIOOBE_FORMATTER" "Ljava/util/function/BiFunction;" (mv G (vO 13)) (fun q => gB G ≤ q) U H ∧ va_Z "java/lang/Integer" "DigitOnes" "[B" (.ref (gA G 14)) (fun q => gB G ≤ q) U H ∧ va_T .byte (gA G 14) 100 (fun j => .int (Int32.ofNat (48 + j % 10))) (fun q => gB G ≤ q) U H ∧
  (∀ k, k < 14 → k ≠ 12 → ∃ a, gO G (k + 1) = some a)
theorem va_Old.kept {G : Gl} {U : State} {H H1 : Heap} (h : va_Old G U H) (hq : ∀ a : Nat, a < H.size → ¬ gB G ≤ a → H1[a]? = H[a]?) : va_Old G U H1 :=
  ⟨h.1.kept hq, h.2.1, h.2.2.1.kept hq, h.2.2.2.1.kept hq, h.2.2.2.2.1.kept hq, h.2.2.2.2.2.1.kept hq, h.2.2.2.2.2.2⟩
theorem va_Old.warm {G : Gl} {s U : State} {H : Heap} (hW : s.WarmedH U.vm) (h : va_Old G s H) : va_Old G U H :=
  ⟨h.1.moved hW.alike, fun i hi => (h.2.1 i hi).warm hW, h.2.2.1.moved hW.alike, h.2.2.2.1.moved hW.alike, h.2.2.2.2.1.moved hW.alike, h.2.2.2.2.2.1.moved hW.alike, h.2.2.2.2.2.2⟩
theorem va_Old.same {G : Gl} {u U : State} {H : Heap} (hv : u.vm = U.vm) (h : va_Old G u H) : va_Old G U H := by
  have hal : u.vm.Alike U.vm := by rw [hv]; exact Vm.Alike.refl _
  exact ⟨h.1.moved hal, fun i hi => vk_R.same hv.symm (h.2.1 i hi), h.2.2.1.moved hal, h.2.2.2.1.moved hal, h.2.2.2.2.1.moved hal, h.2.2.2.2.2.1.moved hal, h.2.2.2.2.2.2⟩
def ExW (G : Gl) (U : State) (H : Heap) : Prop := ExA U ∧ va_Old G U H
theorem va_A2.moved {u U : State} (hvm : u.vm.Alike U.vm) (h : va_A2 u) : va_A2 U := Jvm.Stand.arrayOver_alikeB hvm h
theorem ExA.warm {s U : State} (hW : s.WarmedH U.vm) (h : ExA s) : ExA U := by
  refine ⟨fun w hw => ?_, h.2.1.moved hW.alike, h.2.2.1.moved hW.alike, h.2.2.2.1.moved hW.alike, h.2.2.2.2.1.moved hW.alike, va_Nw.warmC hW h.2.2.2.2.2⟩
  have h1 := h.1 w hw
  have h2 := (List.mem_filter.mp hw).2
  cases w with
  | methodLinkNest a i x hh => exact va_Nw.warmM hW h1
  | _ => cases h2
theorem ExW.warm {G : Gl} {s U : State} {H : Heap} (hW : s.WarmedH U.vm) (h : ExW G s H) : ExW G U H := ⟨h.1.warm hW, h.2.warm hW⟩
def Cx (G : Gl) (μ : MB) (p : Program) (Rm : Room) (s : State) (m : MethodId) (args : Array Value) (meth : Method) (c : Code) : Prop :=
  p.tables.exec = Jvm.exec ∧ c.code = mC μ ∧ c.maxLocals = mL μ ∧ s.vm.findClass (mO μ) = some m.cls ∧ (∀ w ∈ lw_t2, w.before args s = true) ∧ meth.sig.returnType = mR μ ∧ meth.locks = false ∧ ((mY μ).name = "<init>" → meth.name = "<init>") ∧ va_K (gD G) vwCl (gT G) s ∧ (gT G).map Prod.snd = atyL ∧
  mK μ ≤ Rm.frames ∧ mW μ ≤ Rm.locals ∧ gB G ≤ s.heap.size ∧ gb G < gB G ∧ va_X (gb G) (gL G) (gX G) s s.heap ∧ gL G ≤ 260 ∧ ExW G s s.heap
abbrev Lc : Type := List (Nat × PV)
def mls (G : Gl) (ls : Lc) : List (Nat × Value) := ls.map (fun q => (q.1, mv G q.2))
def retst (G : Gl) : PV → List Value
  | .inr (.inr 0) => []
  | v => [mv G v]
def IsRet (μ : MB) (pc : Nat) (v : PV) : Prop :=
  (∃ x, v = vI x ∧ decode (mC μ) pc = .ok (.ireturn, 1) ∧ (mR μ = some .int ∨ (mR μ = some .boolean ∧ (x = 0 ∨ x = 1)) ∨ (mR μ = some .byte ∧ -128 ≤ x ∧ x < 128) ∨ (mR μ = some .char ∧ 0 ≤ x ∧ x < 65536))) ∨
  (∃ r, v = vR r ∧ decode (mC μ) pc = .ok (.areturn, 1) ∧ ∃ rt, mR μ = some rt ∧ ((∃ n, rt = .object n) ∨ ∃ t, rt = .array t)) ∨
  (v = vS ∧ decode (mC μ) pc = .ok (.return_, 1) ∧ mR μ = none)
/-- the frame's locals and the heap are these -/
def Fr (G : Gl) (μ : MB) (ls : Lc) (S : Sh) (I : MI) (R : MR) (s : State) (Hm : Heap) (locs : List Loc) (lsM : Array Slot) : Prop :=
  lv_has lsM (mL μ) (mls G ls) ∧ MRel G S I R Hm ∧ va_S (fun q => gB G ≤ q) s.heap Hm locs
/-- from this frame the machine comes to a return instruction with this answer and this heap -/
def Run (G : Gl) (μ : MB) (pc : Nat) (ls : Lc) (st : List PV) (S : Sh) (I : MI) (R : MR) (S' : Sh) (I' : MI) (R' : MR) (v : PV) : Prop :=
  sN S ≤ sN S' ∧ sU S ≤ sU S' ∧ ∀ (p : Program) (l : Launch) (e : Env) (Rm : Room) (s : State) (m : MethodId) (args : Array Value) (below : List Frame) (meth : Method) (c : Code) (Hm : Heap) (locs : List Loc) (cells slots : Nat) (lsM : Array Slot) (Z : State → Prop),
    Cx G μ p Rm s m args meth c → cells + (sN S' - sN S) ≤ Rm.cells → slots + (sU S' - sU S) ≤ Rm.slots → Fr G μ ls S I R s Hm locs lsM →
    (∀ (Hm' : Heap) (locs' : List Loc) (pc' : Nat) (ls' : Array Slot), MRel G S' I' R' Hm' → va_S (fun q => gB G ≤ q) s.heap Hm' locs' → IsRet μ pc' v →
      W p l e Rm s m args below meth c Hm' locs' (cells + (sN S' - sN S)) (slots + (sU S' - sU S)) Z (F0 m pc' ls' (retst G v))) →
    W p l e Rm s m args below meth c Hm locs cells slots Z (F0 m pc lsM (st.map (mv G)))
abbrev PQ : Type := Sh → MI → MR → PV → Prop
def okL (ls : Lc) : Prop := ∀ q ∈ ls, vok q.2
def okV (st : List PV) : Prop := ∀ v ∈ st, vok v
def E (G : Gl) (μ : MB) (pc : Nat) (ls : Lc) (st : List PV) (S : Sh) (I : MI) (R : MR) (Q : PQ) : Prop :=
  okS S → okI S I → okL ls → okV st → ∃ (S' : Sh) (I' : MI) (R' : MR) (v : PV), Q S' I' R' v ∧ okS S' ∧ okI S' I' ∧ vok v ∧ Run G μ pc ls st S I R S' I' R' v
theorem E.mono {G : Gl} {μ : MB} {pc : Nat} {ls : Lc} {st : List PV} {S : Sh} {I : MI} {R : MR} {Q Q' : PQ} (h : E G μ pc ls st S I R Q) (hq : ∀ S' I' R' v, Q S' I' R' v → Q' S' I' R' v) : E G μ pc ls st S I R Q' := by
  intro a b c d
  obtain ⟨S', I', R', v, h1, h2⟩ := h a b c d
  exact ⟨S', I', R', v, hq _ _ _ _ h1, h2⟩
theorem E.ok {G : Gl} {μ : MB} {pc : Nat} {ls : Lc} {st : List PV} {S : Sh} {I : MI} {R : MR} {Q : PQ} (h : okS S → okI S I → okL ls → okV st → E G μ pc ls st S I R Q) : E G μ pc ls st S I R Q := fun a b c d => h a b c d a b c d
section GO
variable {G : Gl} {μ : MB} {pc pc2 : Nat} {ls ls2 : Lc} {st st2 : List PV} {S S2 : Sh} {I I2 : MI} {R R2 : MR} {Q : PQ}
/-- a step that may write and make cells -/
theorem e_step (hn : sN S ≤ sN S2) (hu : sU S ≤ sU S2) (hok : okS S → okI S I → okL ls → okV st → okS S2 ∧ okI S2 I2 ∧ okL ls2 ∧ okV st2)
    (h : ∀ (p : Program) (l : Launch) (e : Env) (Rm : Room) (s : State) (m : MethodId) (args : Array Value) (below : List Frame) (meth : Method) (c : Code) (Hm : Heap) (locs : List Loc) (cells slots : Nat) (lsM : Array Slot) (Z : State → Prop),
      okS S → okI S I → okL ls → okV st → Cx G μ p Rm s m args meth c → cells + (sN S2 - sN S) ≤ Rm.cells → slots + (sU S2 - sU S) ≤ Rm.slots → Fr G μ ls S I R s Hm locs lsM →
      (∀ (Hm' : Heap) (locs' : List Loc) (lsM' : Array Slot), Fr G μ ls2 S2 I2 R2 s Hm' locs' lsM' → W p l e Rm s m args below meth c Hm' locs' (cells + (sN S2 - sN S)) (slots + (sU S2 - sU S)) Z (F0 m pc2 lsM' (st2.map (mv G)))) →
      W p l e Rm s m args below meth c Hm locs cells slots Z (F0 m pc lsM (st.map (mv G))))
    (k : E G μ pc2 ls2 st2 S2 I2 R2 Q) : E G μ pc ls st S I R Q := by
  intro o1 o2 o3 o4
  obtain ⟨n1, n2, n3, n4⟩ := hok o1 o2 o3 o4
  obtain ⟨S', I', R', v, hq, r1, r2, r3, h1, h2, hk⟩ := k n1 n2 n3 n4
  refine ⟨S', I', R', v, hq, r1, r2, r3, Nat.le_trans hn h1, Nat.le_trans hu h2, ?_⟩
  intro p l e Rm s m args below meth c Hm locs cells slots lsM Z hC hc hs hF kk
  refine h p l e Rm s m args below meth c Hm locs cells slots lsM Z o1 o2 o3 o4 hC (by omega) (by omega) hF ?_
  intro Hm' locs' lsM' hF'
  refine hk p l e Rm s m args below meth c Hm' locs' _ _ lsM' Z hC (by omega) (by omega) hF' ?_
  intro Hm'' locs'' pc' ls' hM hS hr
  rw [show cells + (sN S2 - sN S) + (sN S' - sN S2) = cells + (sN S' - sN S) by omega, show slots + (sU S2 - sU S) + (sU S' - sU S2) = slots + (sU S' - sU S) by omega]
  exact kk Hm'' locs'' pc' ls' hM hS hr
/-- a step that leaves the heap alone, and the locals -/
theorem e_go (hv : okI S I → okL ls → okV st → okV st2)
    (h : ∀ (p : Program) (l : Launch) (e : Env) (Rm : Room) (s : State) (m : MethodId) (args : Array Value) (below : List Frame) (meth : Method) (c : Code) (Hm : Heap) (locs : List Loc) (cells slots : Nat) (lsM : Array Slot) (Z : State → Prop),
      okS S → okI S I → okL ls → okV st → Cx G μ p Rm s m args meth c → p.tables.exec = Jvm.exec → c.code = mC μ → Fr G μ ls S I R s Hm locs lsM → 
      W p l e Rm s m args below meth c Hm locs cells slots Z (F0 m pc2 lsM (st2.map (mv G))) →
      W p l e Rm s m args below meth c Hm locs cells slots Z (F0 m pc lsM (st.map (mv G))))
    (k : E G μ pc2 ls st2 S I R Q) : E G μ pc ls st S I R Q := by
  refine e_step (Nat.le_refl _) (Nat.le_refl _) (fun a b c d => ⟨a, b, c, hv b c d⟩) ?_ k
  intro p l e Rm s m args below meth c Hm locs cells slots lsM Z o1 o2 o3 o4 hC hc hs hF kk
  refine h p l e Rm s m args below meth c Hm locs cells slots lsM Z o1 o2 o3 o4 hC hC.1 hC.2.1 hF ?_
  have := kk Hm locs lsM hF
  simpa using this
/-- a step that writes a local -/
theorem e_gol (hv : okL ls → okV st → okL ls2 ∧ okV st2)
    (h : ∀ (p : Program) (l : Launch) (e : Env) (Rm : Room) (s : State) (m : MethodId) (args : Array Value) (below : List Frame) (meth : Method) (c : Code) (Hm : Heap) (locs : List Loc) (cells slots : Nat) (lsM : Array Slot) (Z : State → Prop),
      okL ls → okV st → p.tables.exec = Jvm.exec → c.code = mC μ → lv_has lsM (mL μ) (mls G ls) → 
      (∀ lsM' : Array Slot, lv_has lsM' (mL μ) (mls G ls2) → W p l e Rm s m args below meth c Hm locs cells slots Z (F0 m pc2 lsM' (st2.map (mv G)))) →
      W p l e Rm s m args below meth c Hm locs cells slots Z (F0 m pc lsM (st.map (mv G))))
    (k : E G μ pc2 ls2 st2 S I R Q) : E G μ pc ls st S I R Q := by
  refine e_step (Nat.le_refl _) (Nat.le_refl _) (fun a b c d => ⟨a, b, (hv c d).1, (hv c d).2⟩) ?_ k
  intro p l e Rm s m args below meth c Hm locs cells slots lsM Z o1 o2 o3 o4 hC hc hs hF kk
  refine h p l e Rm s m args below meth c Hm locs cells slots lsM Z o3 o4 hC.1 hC.2.1 hF.1 ?_
  intro lsM' hl
  have := kk Hm locs lsM' ⟨hl, hF.2⟩
  simpa using this
theorem vok_cons {v : PV} {st : List PV} (h : vok v) (hs : okV st) : okV (v :: st) := List.forall_mem_cons.mpr ⟨h, hs⟩
theorem vok_tl {v : PV} {st : List PV} (hs : okV (v :: st)) : okV st := (List.forall_mem_cons.mp hs).2
theorem vok_hd {v : PV} {st : List PV} (hs : okV (v :: st)) : vok v := (List.forall_mem_cons.mp hs).1
theorem lok_cons {q : Nat × PV} {ls : Lc} (h : vok q.2) (hs : okL ls) : okL (q :: ls) := List.forall_mem_cons.mpr ⟨h, hs⟩
theorem lok_at (h : okL ls) (k : Nat) {i : Nat} {v : PV} (hk : ls[k]? = some (i, v)) : vok v := h _ (List.mem_of_getElem? hk)
-- constants
theorem e_iconst {n : Int} (hd : decode (mC μ) pc = .ok (.iconst n, 1)) (hn : InR n) (k : E G μ (pc + 1) ls (vI n :: st) S I R Q) : E G μ pc ls st S I R Q :=
  e_go (fun _ _ h => vok_cons (v := vI n) hn h) (fun p l e Rm s m args below meth c Hm locs cells slots lsM Z _ _ _ _ hC hx hb hF kk => lv_iconst hx hb hd rfl kk) k
theorem e_bipush {n x : Int} (hd : decode (mC μ) pc = .ok (.bipush n, 2)) (hn : (Int8.ofInt n).toInt32 = Int32.ofInt x ∧ InR x) (k : E G μ (pc + 2) ls (vI x :: st) S I R Q) : E G μ pc ls st S I R Q :=
  e_go (fun _ _ h => vok_cons (v := vI x) hn.2 h) (fun p l e Rm s m args below meth c Hm locs cells slots lsM Z _ _ _ _ hC hx hb hF kk => lv_bipush hx hb hd hn.1 kk) k
theorem e_sipush {n x : Int} (hd : decode (mC μ) pc = .ok (.sipush n, 3)) (hn : (Int16.ofInt n).toInt32 = Int32.ofInt x ∧ InR x) (k : E G μ (pc + 3) ls (vI x :: st) S I R Q) : E G μ pc ls st S I R Q :=
  e_go (fun _ _ h => vok_cons (v := vI x) hn.2 h) (fun p l e Rm s m args below meth c Hm locs cells slots lsM Z _ _ _ _ hC hx hb hF kk => lv_sipush hx hb hd hn.1 kk) k
theorem e_ldc {x : Int} {index : Nat} (hd : decode (mC μ) pc = .ok (.ldc index, 2)) (hw : Jvm.Cond.constant (mO μ) index (Int32.ofInt x) ∈ lw_t2) (hn : InR x) (k : E G μ (pc + 2) ls (vI x :: st) S I R Q) : E G μ pc ls st S I R Q :=
  e_go (fun _ _ h => vok_cons (v := vI x) hn h) (fun p l e Rm s m args below meth c Hm locs cells slots lsM Z _ _ _ _ hC hx hb hF kk => lv_ldc hx hb hC.2.2.2.1 (hC.2.2.2.2.1 _ hw) hd kk) k
theorem e_ldc2 {x : Int} {index : Nat} (hd : decode (mC μ) pc = .ok (.ldc2_w index, 3)) (hw : Jvm.Cond.constantLong (mO μ) index (Int64.ofInt x) ∈ lw_t2) (hn : InL x) (k : E G μ (pc + 3) ls (vL x :: st) S I R Q) : E G μ pc ls st S I R Q :=
  e_go (fun _ _ h => vok_cons (v := vL x) hn h) (fun p l e Rm s m args below meth c Hm locs cells slots lsM Z _ _ _ _ hC hx hb hF kk => lv_ldc2 hx hb hC.2.2.2.1 (hC.2.2.2.2.1 _ hw) hd kk) k
theorem e_lconst {n : Fin 2} {x : Int} (hd : decode (mC μ) pc = .ok (.lconst n, 1)) (hn : Int64.ofNat (n : Nat) = Int64.ofInt x ∧ InL x) (k : E G μ (pc + 1) ls (vL x :: st) S I R Q) : E G μ pc ls st S I R Q :=
  e_go (fun _ _ h => vok_cons (v := vL x) hn.2 h) (fun p l e Rm s m args below meth c Hm locs cells slots lsM Z _ _ _ _ hC hx hb hF kk => lv_lconst hx hb hd hn.1 kk) k
theorem e_null (hd : decode (mC μ) pc = .ok (.aconst_null, 1)) (k : E G μ (pc + 1) ls (vR 0 :: st) S I R Q) : E G μ pc ls st S I R Q :=
  e_go (fun _ _ h => vok_cons (v := vR 0) trivial h) (fun p l e Rm s m args below meth c Hm locs cells slots lsM Z _ _ _ _ hC hx hb hF kk => lv_null hx hb hd kk) k
-- loads
theorem fr_at {lsM : Array Slot} {n : Nat} (h : lv_has lsM n (mls G ls)) (k : Nat) {i : Nat} {v : PV} (hk : ls[k]? = some (i, v)) : lsM[i]? = some (.val (mv G v)) :=
  lv_at h k (v := mv G v) (by simp [mls, hk])
theorem e_iload_n {j : Fin 4} {x : Int} (q : Nat) (hd : decode (mC μ) pc = .ok (.iload_n j, 1)) (hq : ls[q]? = some ((j : Nat), vI x)) (k : E G μ (pc + 1) ls (vI x :: st) S I R Q) : E G μ pc ls st S I R Q :=
  e_go (fun _ b h => vok_cons (lok_at b q hq) h) (fun p l e Rm s m args below meth c Hm locs cells slots lsM Z _ _ _ _ hC hx hb hF kk => lv_iload_n hx hb hd rfl (fr_at hF.1 q hq) kk) k
theorem e_iload {i : Nat} {x : Int} (q : Nat) (hd : decode (mC μ) pc = .ok (.iload i, 2)) (hq : ls[q]? = some (i, vI x)) (k : E G μ (pc + 2) ls (vI x :: st) S I R Q) : E G μ pc ls st S I R Q :=
  e_go (fun _ b h => vok_cons (lok_at b q hq) h) (fun p l e Rm s m args below meth c Hm locs cells slots lsM Z _ _ _ _ hC hx hb hF kk => lv_iload hx hb hd (fr_at hF.1 q hq) kk) k
theorem e_lload_n {j : Fin 4} {x : Int} (q : Nat) (hd : decode (mC μ) pc = .ok (.lload_n j, 1)) (hq : ls[q]? = some ((j : Nat), vL x)) (k : E G μ (pc + 1) ls (vL x :: st) S I R Q) : E G μ pc ls st S I R Q :=
  e_go (fun _ b h => vok_cons (lok_at b q hq) h) (fun p l e Rm s m args below meth c Hm locs cells slots lsM Z _ _ _ _ hC hx hb hF kk => lv_lload_n hx hb hd rfl (fr_at hF.1 q hq) kk) k
theorem e_lload {i : Nat} {x : Int} (q : Nat) (hd : decode (mC μ) pc = .ok (.lload i, 2)) (hq : ls[q]? = some (i, vL x)) (k : E G μ (pc + 2) ls (vL x :: st) S I R Q) : E G μ pc ls st S I R Q :=
  e_go (fun _ b h => vok_cons (lok_at b q hq) h) (fun p l e Rm s m args below meth c Hm locs cells slots lsM Z _ _ _ _ hC hx hb hF kk => lv_lload hx hb hd (fr_at hF.1 q hq) kk) k
theorem e_aload_n {j : Fin 4} {r : Nat ⊕ Nat} (q : Nat) (hd : decode (mC μ) pc = .ok (.aload_n j, 1)) (hq : ls[q]? = some ((j : Nat), .inr r)) (k : E G μ (pc + 1) ls (.inr r :: st) S I R Q) : E G μ pc ls st S I R Q := by
  refine e_go (fun _ b h => vok_cons (lok_at b q hq) h) (fun p l e Rm s m args below meth c Hm locs cells slots lsM Z _ _ _ _ hC hx hb hF kk => ?_) k
  have hl := fr_at hF.1 q hq
  match r, hl, kk with
  | .inr k, hl, kk =>
    rcases mv_old G k with e | ⟨a, e⟩
    · rw [List.map_cons, e] at kk
      rw [e] at hl
      exact lv_aload_nN hx hb hd rfl hl kk
    · rw [List.map_cons, e] at kk
      rw [e] at hl
      exact lv_aload_n hx hb hd rfl hl kk
  | .inl 0, hl, kk => exact lv_aload_nN hx hb hd rfl hl kk
  | .inl (_ + 1), hl, kk => exact lv_aload_n hx hb hd rfl hl kk
theorem e_aload {i : Nat} {r : Nat ⊕ Nat} (q : Nat) (hd : decode (mC μ) pc = .ok (.aload i, 2)) (hq : ls[q]? = some (i, .inr r)) (k : E G μ (pc + 2) ls (.inr r :: st) S I R Q) : E G μ pc ls st S I R Q := by
  refine e_go (fun _ b h => vok_cons (lok_at b q hq) h) (fun p l e Rm s m args below meth c Hm locs cells slots lsM Z _ _ _ _ hC hx hb hF kk => ?_) k
  have hl := fr_at hF.1 q hq
  match r, hl, kk with
  | .inr k, hl, kk =>
    rcases mv_old G k with e | ⟨a, e⟩
    · rw [List.map_cons, e] at kk
      rw [e] at hl
      exact lv_aloadN hx hb hd hl kk
    · rw [List.map_cons, e] at kk
      rw [e] at hl
      exact lv_aload hx hb hd hl kk
  | .inl 0, hl, kk => exact lv_aloadN hx hb hd hl kk
  | .inl (_ + 1), hl, kk => exact lv_aload hx hb hd hl kk
-- stores
def put1 (i : Nat) (v : PV) (ls : Lc) : Lc := (i, v) :: ls.filter (fun q => !(q.1 == i) && !(q.1 + 1 == i && pcat q.2 == 2))
def put2 (i : Nat) (v : PV) (ls : Lc) : Lc := (i, v) :: ls.filter (fun q => !(q.1 == i) && (!(q.1 == i + 1) && !(q.1 + 1 == i && pcat q.2 == 2)))
theorem put1_mls (G : Gl) (i : Nat) (v : PV) (ls : Lc) : (i, mv G v) :: (mls G ls).filter (fun q => !(q.1 == i) && !(q.1 + 1 == i && q.2.category == 2)) = mls G (put1 i v ls) := by
  unfold put1 mls
  rw [List.map_cons, List.filter_map]
  congr 2
  apply List.filter_congr
  intro q _
  simp [Function.comp, mv_cat]
theorem put2_mls (G : Gl) (i : Nat) (v : PV) (ls : Lc) : (i, mv G v) :: (mls G ls).filter (fun q => !(q.1 == i) && (!(q.1 == i + 1) && !(q.1 + 1 == i && q.2.category == 2))) = mls G (put2 i v ls) := by
  unfold put2 mls
  rw [List.map_cons, List.filter_map]
  congr 2
  apply List.filter_congr
  intro q _
  simp [Function.comp, mv_cat]
theorem lok_put1 {i : Nat} {v : PV} (h : vok v) (hs : okL ls) : okL (put1 i v ls) := lok_cons h (fun q hq => hs q (List.mem_filter.mp hq).1)
theorem lok_put2 {i : Nat} {v : PV} (h : vok v) (hs : okL ls) : okL (put2 i v ls) := lok_cons h (fun q hq => hs q (List.mem_filter.mp hq).1)
theorem e_istore_n {j : Fin 4} {x : Int} (hd : decode (mC μ) pc = .ok (.istore_n j, 1)) (hn : (j : Nat) < mL μ) (hl : put1 (j : Nat) (vI x) ls = ls2) (k : E G μ (pc + 1) ls2 st S I R Q) : E G μ pc ls (vI x :: st) S I R Q := by
  subst hl
  exact e_gol (fun a b => ⟨lok_put1 (vok_hd b) a, vok_tl b⟩) (fun p l e Rm s m args below meth c Hm locs cells slots lsM Z _ _ hx hb hF kk => lv_istore_n hx hb hd rfl hF hn (put1_mls G _ (vI x) ls) kk) k
theorem e_istore {i : Nat} {x : Int} (hd : decode (mC μ) pc = .ok (.istore i, 2)) (hn : i < mL μ) (hl : put1 i (vI x) ls = ls2) (k : E G μ (pc + 2) ls2 st S I R Q) : E G μ pc ls (vI x :: st) S I R Q := by
  subst hl
  exact e_gol (fun a b => ⟨lok_put1 (vok_hd b) a, vok_tl b⟩) (fun p l e Rm s m args below meth c Hm locs cells slots lsM Z _ _ hx hb hF kk => lv_istore hx hb hd hF hn (put1_mls G _ (vI x) ls) kk) k
theorem e_lstore_n {j : Fin 4} {x : Int} (hd : decode (mC μ) pc = .ok (.lstore_n j, 1)) (hn : (j : Nat) + 1 < mL μ) (hl : put2 (j : Nat) (vL x) ls = ls2) (k : E G μ (pc + 1) ls2 st S I R Q) : E G μ pc ls (vL x :: st) S I R Q := by
  subst hl
  exact e_gol (fun a b => ⟨lok_put2 (vok_hd b) a, vok_tl b⟩) (fun p l e Rm s m args below meth c Hm locs cells slots lsM Z _ _ hx hb hF kk => lv_lstore_n hx hb hd rfl hF hn (put2_mls G _ (vL x) ls) kk) k
theorem e_lstore {i : Nat} {x : Int} (hd : decode (mC μ) pc = .ok (.lstore i, 2)) (hn : i + 1 < mL μ) (hl : put2 i (vL x) ls = ls2) (k : E G μ (pc + 2) ls2 st S I R Q) : E G μ pc ls (vL x :: st) S I R Q := by
  subst hl
  exact e_gol (fun a b => ⟨lok_put2 (vok_hd b) a, vok_tl b⟩) (fun p l e Rm s m args below meth c Hm locs cells slots lsM Z _ _ hx hb hF kk => lv_lstore hx hb hd hF hn (put2_mls G _ (vL x) ls) kk) k
theorem e_astore_n {j : Fin 4} {r : Nat ⊕ Nat} (hd : decode (mC μ) pc = .ok (.astore_n j, 1)) (hn : (j : Nat) < mL μ) (hl : put1 (j : Nat) (.inr r) ls = ls2) (k : E G μ (pc + 1) ls2 st S I R Q) : E G μ pc ls (.inr r :: st) S I R Q := by
  subst hl
  refine e_gol (fun a b => ⟨lok_put1 (vok_hd b) a, vok_tl b⟩) (fun p l e Rm s m args below meth c Hm locs cells slots lsM Z _ _ hx hb hF kk => ?_) k
  match r, kk with
  | .inr k, kk =>
    have e0 := put1_mls G (j : Nat) (vO k) ls
    rw [List.map_cons]
    rcases mv_old G k with e | ⟨a, e⟩
    · rw [e] at e0 ⊢
      exact lv_astore_nN hx hb hd rfl hF hn e0 kk
    · rw [e] at e0 ⊢
      exact lv_astore_n hx hb hd rfl hF hn e0 kk
  | .inl 0, kk => exact lv_astore_nN hx hb hd rfl hF hn (put1_mls G _ (vR 0) ls) kk
  | .inl (r + 1), kk => exact lv_astore_n hx hb hd rfl hF hn (put1_mls G _ (vR (r + 1)) ls) kk
theorem e_astore {i : Nat} {r : Nat ⊕ Nat} (hd : decode (mC μ) pc = .ok (.astore i, 2)) (hn : i < mL μ) (hl : put1 i (.inr r) ls = ls2) (k : E G μ (pc + 2) ls2 st S I R Q) : E G μ pc ls (.inr r :: st) S I R Q := by
  subst hl
  refine e_gol (fun a b => ⟨lok_put1 (vok_hd b) a, vok_tl b⟩) (fun p l e Rm s m args below meth c Hm locs cells slots lsM Z _ _ hx hb hF kk => ?_) k
  match r, kk with
  | .inr k, kk =>
    have e0 := put1_mls G i (vO k) ls
    rw [List.map_cons]
    rcases mv_old G k with e | ⟨a, e⟩
    · rw [e] at e0 ⊢
      exact lv_astoreN hx hb hd hF hn e0 kk
    · rw [e] at e0 ⊢
      exact lv_astore hx hb hd hF hn e0 kk
  | .inl 0, kk => exact lv_astoreN hx hb hd hF hn (put1_mls G _ (vR 0) ls) kk
  | .inl (r + 1), kk => exact lv_astore hx hb hd hF hn (put1_mls G _ (vR (r + 1)) ls) kk
theorem e_iinc {i : Nat} {n x : Int} (q : Nat) (hd : decode (mC μ) pc = .ok (.iinc i n, 3)) (hq : ls[q]? = some (i, vI x)) (hn : i < mL μ) (hl : put1 i (vI (w32 (x + n))) ls = ls2) (k : E G μ (pc + 3) ls2 st S I R Q) : E G μ pc ls st S I R Q := by
  subst hl
  refine e_gol (fun a b => ⟨lok_put1 (v := vI _) (InR_toInt _) a, b⟩) (fun p l e Rm s m args below meth c Hm locs cells slots lsM Z _ _ hx hb hF kk => ?_) k
  exact lv_iinc (x := Int32.ofInt x) (v := Int32.ofInt (w32 (x + n))) hx hb hd hF (k := q) (by simp [mls, hq, mv]) (by rw [o32w, Int32.ofInt_add]) hn (put1_mls G _ (vI (w32 (x + n))) ls) kk
/-- fewer locals, in another order -/
theorem e_sub (is : List Nat) (hl : is.filterMap (fun i => ls[i]?) = ls2) (k : E G μ pc ls2 st S I R Q) : E G μ pc ls st S I R Q := by
  have hsub : ∀ q ∈ ls2, q ∈ ls := by
    intro q hq
    rw [← hl] at hq
    obtain ⟨i, -, hi⟩ := List.mem_filterMap.mp hq
    exact List.mem_of_getElem? hi
  refine e_step (Nat.le_refl _) (Nat.le_refl _) (fun a b c d => ⟨a, b, fun q hq => c q (hsub q hq), d⟩) ?_ k
  intro p l e Rm s m args below meth c Hm locs cells slots lsM Z o1 o2 o3 o4 hC hc hs hF kk
  have hh : lv_has lsM (mL μ) (mls G ls2) := by
    refine ⟨hF.1.1, hF.1.2.1, fun q hq => ?_⟩
    obtain ⟨q', hq', rfl⟩ := List.mem_map.mp hq
    exact hF.1.2.2 _ (List.mem_map.mpr ⟨q', hsub q' hq', rfl⟩)
  have := kk Hm locs lsM ⟨hh, hF.2⟩
  simpa using this
-- arithmetic
theorem e_iadd {x y : Int} (hd : decode (mC μ) pc = .ok (.iadd, 1)) (k : E G μ (pc + 1) ls (vI (w32 (x + y)) :: st) S I R Q) : E G μ pc ls (vI y :: vI x :: st) S I R Q :=
  e_go (fun _ _ h => vok_cons (v := vI _) (InR_toInt _) (vok_tl (vok_tl h))) (fun p l e Rm s m args below meth c Hm locs cells slots lsM Z _ _ _ _ hC hx hb hF kk => lv_iadd hx hb hd (by rw [← Int32.ofInt_add, ← o32w]; exact kk)) k
theorem e_isub {x y : Int} (hd : decode (mC μ) pc = .ok (.isub, 1)) (k : E G μ (pc + 1) ls (vI (w32 (x - y)) :: st) S I R Q) : E G μ pc ls (vI y :: vI x :: st) S I R Q :=
  e_go (fun _ _ h => vok_cons (v := vI _) (InR_toInt _) (vok_tl (vok_tl h))) (fun p l e Rm s m args below meth c Hm locs cells slots lsM Z _ _ _ _ hC hx hb hF kk => lv_isub hx hb hd (by rw [← Int32.ofInt_sub, ← o32w]; exact kk)) k
theorem e_imul {x y : Int} (hd : decode (mC μ) pc = .ok (.imul, 1)) (k : E G μ (pc + 1) ls (vI (w32 (x * y)) :: st) S I R Q) : E G μ pc ls (vI y :: vI x :: st) S I R Q :=
  e_go (fun _ _ h => vok_cons (v := vI _) (InR_toInt _) (vok_tl (vok_tl h))) (fun p l e Rm s m args below meth c Hm locs cells slots lsM Z _ _ _ _ hC hx hb hF kk => lv_imul hx hb hd (by rw [← Int32.ofInt_mul, ← o32w]; exact kk)) k
theorem e_ineg {x : Int} (hd : decode (mC μ) pc = .ok (.ineg, 1)) (k : E G μ (pc + 1) ls (vI (w32 (-x)) :: st) S I R Q) : E G μ pc ls (vI x :: st) S I R Q :=
  e_go (fun _ _ h => vok_cons (v := vI _) (InR_toInt _) (vok_tl h)) (fun p l e Rm s m args below meth c Hm locs cells slots lsM Z _ _ _ _ hC hx hb hF kk => lv_ineg hx hb hd (by rw [← Int32.ofInt_neg, ← o32w]; exact kk)) k
theorem e_iand {x y : Int} (hd : decode (mC μ) pc = .ok (.iand, 1)) (k : E G μ (pc + 1) ls (vI (iand x y) :: st) S I R Q) : E G μ pc ls (vI y :: vI x :: st) S I R Q :=
  e_go (fun _ _ h => vok_cons (v := vI _) (InR_toInt _) (vok_tl (vok_tl h))) (fun p l e Rm s m args below meth c Hm locs cells slots lsM Z _ _ _ _ hC hx hb hF kk => lv_iand hx hb hd (by rw [← Int32.ofInt_toInt (_ &&& _)]; exact kk)) k
theorem e_ior {x y : Int} (hd : decode (mC μ) pc = .ok (.ior, 1)) (k : E G μ (pc + 1) ls (vI (ior x y) :: st) S I R Q) : E G μ pc ls (vI y :: vI x :: st) S I R Q :=
  e_go (fun _ _ h => vok_cons (v := vI _) (InR_toInt _) (vok_tl (vok_tl h))) (fun p l e Rm s m args below meth c Hm locs cells slots lsM Z _ _ _ _ hC hx hb hF kk => lv_ior hx hb hd (by rw [← Int32.ofInt_toInt (_ ||| _)]; exact kk)) k
theorem e_ixor {x y : Int} (hd : decode (mC μ) pc = .ok (.ixor, 1)) (k : E G μ (pc + 1) ls (vI (ixor x y) :: st) S I R Q) : E G μ pc ls (vI y :: vI x :: st) S I R Q :=
  e_go (fun _ _ h => vok_cons (v := vI _) (InR_toInt _) (vok_tl (vok_tl h))) (fun p l e Rm s m args below meth c Hm locs cells slots lsM Z _ _ _ _ hC hx hb hF kk => lv_ixor hx hb hd (by rw [← Int32.ofInt_toInt (_ ^^^ _)]; exact kk)) k
theorem e_ishl {x y : Int} (hd : decode (mC μ) pc = .ok (.ishl, 1)) (k : E G μ (pc + 1) ls (vI (ishl x y) :: st) S I R Q) : E G μ pc ls (vI y :: vI x :: st) S I R Q :=
  e_go (fun _ _ h => vok_cons (v := vI _) (InR_toInt _) (vok_tl (vok_tl h))) (fun p l e Rm s m args below meth c Hm locs cells slots lsM Z _ _ _ _ hC hx hb hF kk => lv_ishl hx hb hd (by rw [← Int32.ofInt_toInt (_ <<< _)]; exact kk)) k
theorem e_ishr {x y : Int} (hd : decode (mC μ) pc = .ok (.ishr, 1)) (k : E G μ (pc + 1) ls (vI (ishr x y) :: st) S I R Q) : E G μ pc ls (vI y :: vI x :: st) S I R Q :=
  e_go (fun _ _ h => vok_cons (v := vI _) (InR_toInt _) (vok_tl (vok_tl h))) (fun p l e Rm s m args below meth c Hm locs cells slots lsM Z _ _ _ _ hC hx hb hF kk => lv_ishr hx hb hd (by rw [← Int32.ofInt_toInt (_ >>> _)]; exact kk)) k
theorem e_iushr {x y : Int} (hd : decode (mC μ) pc = .ok (.iushr, 1)) (k : E G μ (pc + 1) ls (vI (iushr x y) :: st) S I R Q) : E G μ pc ls (vI y :: vI x :: st) S I R Q :=
  e_go (fun _ _ h => vok_cons (v := vI _) (InR_toInt _) (vok_tl (vok_tl h))) (fun p l e Rm s m args below meth c Hm locs cells slots lsM Z _ _ _ _ hC hx hb hF kk => lv_iushr (x := Int32.ofInt x) (y := Int32.ofInt y) (v := Int32.ofInt (iushr x y)) hx hb hd (Int32.ofInt_toInt _).symm kk) k
theorem o32_ne {y : Int} (h : InR y) (hne : y ≠ 0) : ¬ Int32.ofInt y = 0 := fun e => hne (by rw [← o32 h, e]; rfl)
theorem o64_ne {y : Int} (h : InL y) (hne : y ≠ 0) : ¬ Int64.ofInt y = 0 := fun e => hne (by rw [← o64 h, e]; rfl)
theorem e_irem {x y : Int} (hd : decode (mC μ) pc = .ok (.irem, 1)) (hne : y ≠ 0) (k : E G μ (pc + 1) ls (vI (irem x y) :: st) S I R Q) : E G μ pc ls (vI y :: vI x :: st) S I R Q :=
  e_go (fun _ _ h => vok_cons (v := vI _) (InR_toInt _) (vok_tl (vok_tl h))) (fun p l e Rm s m args below meth c Hm locs cells slots lsM Z _ _ _ o4 hC hx hb hF kk => lv_irem hx hb hd (o32_ne (vok_hd o4) hne) (by rw [← Int32.ofInt_toInt (_ - _)]; exact kk)) k
theorem e_idiv {x y : Int} (hd : decode (mC μ) pc = .ok (.idiv, 1)) (hne : y ≠ 0) (k : E G μ (pc + 1) ls (vI (idiv x y) :: st) S I R Q) : E G μ pc ls (vI y :: vI x :: st) S I R Q :=
  e_go (fun _ _ h => vok_cons (v := vI _) (InR_toInt _) (vok_tl (vok_tl h))) (fun p l e Rm s m args below meth c Hm locs cells slots lsM Z _ _ _ o4 hC hx hb hF kk => lv_idiv hx hb hd (o32_ne (vok_hd o4) hne) (by rw [← Int32.ofInt_toInt (_ / _)]; exact kk)) k
theorem e_ladd {x y : Int} (hd : decode (mC μ) pc = .ok (.ladd, 1)) (k : E G μ (pc + 1) ls (vL (w64 (x + y)) :: st) S I R Q) : E G μ pc ls (vL y :: vL x :: st) S I R Q :=
  e_go (fun _ _ h => vok_cons (v := vL _) (InL_toInt _) (vok_tl (vok_tl h))) (fun p l e Rm s m args below meth c Hm locs cells slots lsM Z _ _ _ _ hC hx hb hF kk => lv_ladd hx hb hd (by rw [← Int64.ofInt_add, ← o64w]; exact kk)) k
theorem e_lsub {x y : Int} (hd : decode (mC μ) pc = .ok (.lsub, 1)) (k : E G μ (pc + 1) ls (vL (w64 (x - y)) :: st) S I R Q) : E G μ pc ls (vL y :: vL x :: st) S I R Q :=
  e_go (fun _ _ h => vok_cons (v := vL _) (InL_toInt _) (vok_tl (vok_tl h))) (fun p l e Rm s m args below meth c Hm locs cells slots lsM Z _ _ _ _ hC hx hb hF kk => lv_lsub hx hb hd (by rw [← Int64.ofInt_sub, ← o64w]; exact kk)) k
theorem e_lmul {x y : Int} (hd : decode (mC μ) pc = .ok (.lmul, 1)) (k : E G μ (pc + 1) ls (vL (w64 (x * y)) :: st) S I R Q) : E G μ pc ls (vL y :: vL x :: st) S I R Q :=
  e_go (fun _ _ h => vok_cons (v := vL _) (InL_toInt _) (vok_tl (vok_tl h))) (fun p l e Rm s m args below meth c Hm locs cells slots lsM Z _ _ _ _ hC hx hb hF kk => lv_lmul hx hb hd (by rw [← Int64.ofInt_mul, ← o64w]; exact kk)) k
theorem e_lneg {x : Int} (hd : decode (mC μ) pc = .ok (.lneg, 1)) (k : E G μ (pc + 1) ls (vL (w64 (-x)) :: st) S I R Q) : E G μ pc ls (vL x :: st) S I R Q :=
  e_go (fun _ _ h => vok_cons (v := vL _) (InL_toInt _) (vok_tl h)) (fun p l e Rm s m args below meth c Hm locs cells slots lsM Z _ _ _ _ hC hx hb hF kk => lv_lneg hx hb hd (by rw [← Int64.ofInt_neg, ← o64w]; exact kk)) k
theorem e_lrem {x y : Int} (hd : decode (mC μ) pc = .ok (.lrem, 1)) (hne : y ≠ 0) (k : E G μ (pc + 1) ls (vL (lrem x y) :: st) S I R Q) : E G μ pc ls (vL y :: vL x :: st) S I R Q :=
  e_go (fun _ _ h => vok_cons (v := vL _) (InL_toInt _) (vok_tl (vok_tl h))) (fun p l e Rm s m args below meth c Hm locs cells slots lsM Z _ _ _ o4 hC hx hb hF kk => lv_lrem hx hb hd (o64_ne (vok_hd o4) hne) (by rw [← Int64.ofInt_toInt (_ - _)]; exact kk)) k
theorem e_lcmp {x y : Int} (hd : decode (mC μ) pc = .ok (.lcmp, 1)) (k : E G μ (pc + 1) ls (vI (lcmp x y) :: st) S I R Q) : E G μ pc ls (vL y :: vL x :: st) S I R Q :=
  e_go (fun _ _ h => vok_cons (v := vI _) (InR_toInt _) (vok_tl (vok_tl h))) (fun p l e Rm s m args below meth c Hm locs cells slots lsM Z _ _ _ _ hC hx hb hF kk => W.lcmp hx hb hd (by rw [← Int32.ofInt_toInt (lg_cmp _ _)]; exact kk)) k
theorem e_i2l {x : Int} (hd : decode (mC μ) pc = .ok (.i2l, 1)) (k : E G μ (pc + 1) ls (vL x :: st) S I R Q) : E G μ pc ls (vI x :: st) S I R Q :=
  e_go (fun _ _ h => vok_cons (v := vL _) (InR.L (vok_hd h)) (vok_tl h)) (fun p l e Rm s m args below meth c Hm locs cells slots lsM Z _ _ _ o4 hC hx hb hF kk => lv_i2l (x := Int32.ofInt x) (v := Int64.ofInt x) hx hb hd (by rw [← Int64.ofInt_int32ToInt, o32 (vok_hd o4)]) kk) k
theorem e_l2i {x : Int} (hd : decode (mC μ) pc = .ok (.l2i, 1)) (k : E G μ (pc + 1) ls (vI (w32 x) :: st) S I R Q) : E G μ pc ls (vL x :: st) S I R Q :=
  e_go (fun _ _ h => vok_cons (v := vI _) (InR_toInt _) (vok_tl h)) (fun p l e Rm s m args below meth c Hm locs cells slots lsM Z _ _ _ o4 hC hx hb hF kk => lv_l2i (x := Int64.ofInt x) (v := Int32.ofInt (w32 x)) hx hb hd (by rw [o32w, ← Int32.ofInt_int64ToInt, o64 (vok_hd o4)]) kk) k
theorem e_i2b {x : Int} (hd : decode (mC μ) pc = .ok (.i2b, 1)) (k : E G μ (pc + 1) ls (vI (i2b x) :: st) S I R Q) : E G μ pc ls (vI x :: st) S I R Q :=
  e_go (fun _ _ h => vok_cons (v := vI _) (InR_toInt _) (vok_tl h)) (fun p l e Rm s m args below meth c Hm locs cells slots lsM Z _ _ _ o4 hC hx hb hF kk => lv_i2b (x := Int32.ofInt x) (v := Int32.ofInt (i2b x)) hx hb hd (Int32.ofInt_toInt _).symm kk) k
theorem e_dup {v : PV} (hd : decode (mC μ) pc = .ok (.dup, 1)) (hv : pcat v = 1) (k : E G μ (pc + 1) ls (v :: v :: st) S I R Q) : E G μ pc ls (v :: st) S I R Q :=
  e_go (fun _ _ h => vok_cons (vok_hd h) h) (fun p l e Rm s m args below meth c Hm locs cells slots lsM Z _ _ _ _ hC hx hb hF kk => lv_dup hx hb hd ((mv_cat G v).trans hv) kk) k
theorem e_dup2 {v w : PV} (hd : decode (mC μ) pc = .ok (.dup2, 1)) (hv : pcat v = 1) (hw : pcat w = 1) (k : E G μ (pc + 1) ls (v :: w :: v :: w :: st) S I R Q) : E G μ pc ls (v :: w :: st) S I R Q :=
  e_go (fun _ _ h => vok_cons (vok_hd h) (vok_cons (vok_hd (vok_tl h)) h)) (fun p l e Rm s m args below meth c Hm locs cells slots lsM Z _ _ _ _ hC hx hb hF kk => lv_dup2_11 hx hb hd ((mv_cat G v).trans hv) ((mv_cat G w).trans hw) kk) k
theorem e_pop {v : PV} (hd : decode (mC μ) pc = .ok (.pop, 1)) (hv : pcat v = 1) (k : E G μ (pc + 1) ls st S I R Q) : E G μ pc ls (v :: st) S I R Q :=
  e_go (fun _ _ h => vok_tl h) (fun p l e Rm s m args below meth c Hm locs cells slots lsM Z _ _ _ _ hC hx hb hF kk => lv_pop hx hb hd ((mv_cat G v).trans hv) kk) k
-- jumps
theorem e_goto {off : Int} {tgt : Nat} (hd : decode (mC μ) pc = .ok (.goto off, 3)) (ht : (pc : Int) + off = (tgt : Int)) (k : E G μ tgt ls st S I R Q) : E G μ pc ls st S I R Q :=
  e_go (fun _ _ h => h) (fun p l e Rm s m args below meth c Hm locs cells slots lsM Z _ _ _ _ hC hx hb hF kk => lv_goto hx hb hd ht kk) k
theorem e_ok (h : okS S → okI S I → okL ls → okV st → E G μ pc ls st S I R Q) : E G μ pc ls st S I R Q := E.ok h
theorem i_lt {x y : Int} (hx : InR x) (hy : InR y) : (Int32.ofInt x < Int32.ofInt y) ↔ x < y := by rw [Int32.lt_iff_toInt_lt, o32 hx, o32 hy]
theorem i_le {x y : Int} (hx : InR x) (hy : InR y) : (Int32.ofInt x ≤ Int32.ofInt y) ↔ x ≤ y := by rw [Int32.le_iff_toInt_le, o32 hx, o32 hy]
theorem i_eq {x y : Int} (hx : InR x) (hy : InR y) : (Int32.ofInt x = Int32.ofInt y) ↔ x = y := by rw [← Int32.toInt_inj, o32 hx, o32 hy]
theorem InR0 : InR 0 := by unfold InR; omega
end GO
