-- ===== end of PART A; then your names; then what follows =====
/-! THE CLAIM OUT OF ONE WALK OF THE LAW'S BODY. Your part is whole_start (and what it stands on); all else here is the same for every law, but numbers. -/
def R_law : String := "StairsNearLaw"
def lw_P (b : Addr) (xs : List Int32) (args : Array Value) (s : State) : Prop := args = #[.ref b] ∧ s.IntsAt b xs ∧ xs.length ≤ 260 ∧ (Jvm.Cond.and given_1 narrow_1).before args s = true
def lw_Q (_ : Array Value) (s : State) (o : Outcome) (t : State) : Prop := o = .returned (some (.int 1)) ∧ Framed s o t [] 600000 7302250
def lw_Z (below : List Frame) (a : Array Value) (s : State) : State → Prop := fun t => ∃ o, t.status = .running ∧ Ended t below o ∧ lw_Q a s o t
/-- the law's own end, with 1 on the stack, nothing written that was there before, its room as the claim has it -/
theorem lw_ret {p : Program} {l : Launch} {e : Env} {s : State} {m : MethodId} {below : List Frame} {meth : Method} {c : Code} {b : Nat} (hx : p.tables.exec = Jvm.exec) (hb : c.code = code) (hr : meth.sig.returnType = ret) (hlocks : meth.locks = false) {pc : Nat} {H : Heap} {ls : Array Slot} (hdg : decode code pc = .ok (.ireturn, 1)) : W p l e room_1 s m #[Value.ref b] below meth c H [] 600000 7302250 (lw_Z below #[Value.ref b] s) (F0 m pc ls [.int 1]) := by
  intro T hT X
  obtain ⟨fs, hret, hrun, hended, hW, hframe⟩ := X.leave (v := some (.int 1)) (hlocks := hlocks) (fun h => by rw [hr] at h; cases h)
  have hmeth' : T.vm.method? m = some meth := X.method'
  refine ⟨T.setFrames fs, ?_, .returned (some (.int 1)), hrun, hended, rfl, ⟨_, rfl⟩, hW, hframe⟩
  jvm_step X.here [X.here.top, hx, hb, hdg, hmeth', hr, ret, narrow_b1]
  (try refine ⟨rfl, ?_⟩); (try refine ⟨rfl, ?_⟩)
  first | (intro acts; rw [hret _ acts rfl rfl rfl]) | rw [hret _ _ rfl rfl rfl]
  exact Steps.refl _
/-- what holds at the law's entry: the machine, the code, the tables' words (any of lw_tbl by 'hts w (by decide +kernel)'), the script of L ints xs at the cell b, what the Statement gives of the start (any of its parts by flat_of_before) -/
def lw_At (p : Program) (s : State) (m : MethodId) (meth : Method) (c : Code) (b L : Nat) (xs : Nat → Int32) : Prop :=
  p.tables.exec = Jvm.exec ∧ c.code = code ∧ meth.sig.returnType = ret ∧ c.maxLocals = 9 ∧ s.vm.findClass R_law = some m.cls ∧ (∀ w ∈ lw_tbl, w.before #[Value.ref b] s = true) ∧ va_X b L xs s s.heap ∧ b < s.heap.size ∧ meth.locks = false ∧ (Jvm.Cond.and given_1 narrow_1).before #[Value.ref b] s = true
theorem arr_ok {U : State} {args : Array Value} {ty : FieldType} (h : (Cond.arrayClass ty).before args U = true) (ho : ∀ C, ty ≠ .object C) : ∃ cA : ClassId, ArrOfT U cA ty ∧ va_RA U cA ty := by
  obtain ⟨c, k, comp, h1, h2, h3⟩ := Cond.arrayClass_spec h
  refine ⟨c, fun N z => ⟨(fun q hq => by cases hq), k, h2, comp, h3⟩, ?_⟩
  cases ty <;> first | exact h1 | exact absurd rfl (ho _)
theorem arr_okO {U : State} {args : Array Value} {C : String} (h : (Cond.arrayOver (.object C)).before args U = true) : ∃ cA : ClassId, ArrOfT U cA (.object C) ∧ va_RA U cA (.object C) := by
  obtain ⟨comp, c, k, h1, h2, h3, h4, h5⟩ := Cond.arrayOver_spec h
  exact ⟨c, fun N z => ⟨(fun q hq => by cases hq), k, h3, comp, h4⟩, k, comp, h3, h4, h1, h5⟩
theorem arr_okA {U : State} {args : Array Value} {t : FieldType} (h : (Cond.arrayOver (.array t)).before args U = true) : ∃ cA : ClassId, ArrOfT U cA (.array t) ∧ va_RA U cA (.array t) := by
  obtain ⟨comp, c, k, h1, h2, h3, h4, h5⟩ := arrayOverA_spec h
  exact ⟨c, fun N z => ⟨(fun q hq => by cases hq), k, h3, comp, h4⟩, h5⟩
def QL : PQ := fun S' _ _ v => v = vI 1 ∧ sN S' ≤ 600000 ∧ sU S' ≤ 7302250
/-- a private method of the class above is the one that is taken -/
theorem sel_up {C : String} {x0 y0 y : MethodName} {s : State} {args : Array Value} (hcls : y.cls = y0.cls) (hy : y.cls ≠ "java/lang/invoke/MethodHandle" ∧ y.cls ≠ "java/lang/invoke/VarHandle") (h0 : (Cond.selects C x0 y0).before args s = true) (hpriv : (Cond.privateMethod y).before args s = true) (hinst : (Cond.instanceMethod y).before args s = true) : (Cond.selects C y y).before args s = true := by
  obtain ⟨c, r, m0, hc, -, hm0, -, k, hk, hki⟩ := Cond.selects_spec h0
  obtain ⟨mk, methM, hnamed, hmethM, -, -⟩ := Cond.instanceMethod_spec hinst
  have hfound : s.methodFound? y.cls y.name y.desc = some mk := State.methodFound?_of_named hnamed hy
  have h1 := findClass_of_methodNamed hnamed
  have h2 := findClass_of_methodNamed hm0
  rw [← hcls] at h2
  have hc2 : mk.cls = m0.cls := Option.some.inj (h1.symm.trans h2)
  have hsel : selectMethod {} s.vm c mk = .method mk := selectMethod_private hmethM (Cond.privateMethod_at hpriv mk methM hnamed hmethM)
  simp only [Cond.before, Cond.holds, Cond.value, hc, hfound, hnamed, hsel, hc2, hk]
  simp
  exact hki
theorem lw_xok : ∀ y ∈ [yJ5_newCapacity_0f7a4, yJ5_inflateIfNeededFor_a7421, yJ5_ensureCapacityInternal_d00df, yJ5_putStringAt_47b60], y.cls = yJ5_isLatin1_aae02.cls ∧ (y.cls ≠ "java/lang/invoke/MethodHandle" ∧ y.cls ≠ "java/lang/invoke/VarHandle") ∧ Cond.privateMethod y ∈ lw_tbl ∧ Cond.instanceMethod y ∈ lw_tbl := by decide +kernel
theorem lw_isL : Cond.selects RJ4 yJ5_isLatin1_aae02 yJ5_isLatin1_aae02 ∈ lw_tbl := by decide +kernel
theorem lw_all {s : State} {args : Array Value} (hts : ∀ w ∈ lw_tbl, w.before args s = true) : ∀ w ∈ lw_t2, w.before args s = true := by
  intro w hw
  rcases List.mem_append.mp hw with h | h
  · exact hts w (List.mem_filter.mp h).1
  · obtain ⟨y, hy, rfl⟩ := List.mem_map.mp h
    obtain ⟨h1, h2, h3, h4⟩ := lw_xok y hy
    exact sel_up h1 h2 (hts _ lw_isL) (hts _ h3) (hts _ h4)
theorem vk_S_congr {len : List Nat} {byt : List (List Int32)} {k1 v1 k2 v2 : Nat → Nat} {A : Nat → Prop} {U : State} {H : Heap} (h : vk_S 6 len byt k1 v1 A U H) (hk : ∀ i, i < 6 → k2 i = k1 i ∧ v2 i = v1 i) : vk_S 6 len byt k2 v2 A U H := by
  refine ⟨fun i hi => ?_, fun i j hi hj e => h.2 i j hi hj (by rw [← (hk i hi).1, ← (hk j hj).1]; exact e)⟩
  rw [(hk i hi).1, (hk i hi).2]
  exact h.1 i hi
def cF : List Cond := flatC (Jvm.Cond.and given_1 narrow_1)
def tmL (i : Nat) : Term := Term.string RL (litIx.getD i 0)
theorem lit_ex : ∀ i, i < 6 → Cond.exactly (tmL i) "java/lang/String" ∈ cF := by decide +kernel
theorem lit_co : ∀ i, i < 6 → Cond.eq (.field (tmL i) "java/lang/String" "coder" "B") (.int 0) ∈ cF := by decide +kernel
theorem lit_ar : ∀ i, i < 6 → Cond.arrayOf (.field (tmL i) "java/lang/String" "value" "[B") .byte ∈ cF := by decide +kernel
theorem lit_le : ∀ i, i < 6 → Cond.eq (.length (.field (tmL i) "java/lang/String" "value" "[B")) (.int (Int32.ofNat (litLen.getD i 0))) ∈ cF := by decide +kernel
theorem lit_el : ∀ i, i < 6 → ∀ j, j < litLen.getD i 0 → Cond.eq (.elem (.field (tmL i) "java/lang/String" "value" "[B") (.int (Int32.ofNat j))) (.int ((litByt.getD i []).getD j 0)) ∈ cF := by decide +kernel
theorem lit_ne : ∀ i, i < 6 → ∀ j, j < 6 → i ≠ j → Cond.not (Cond.eq (tmL i) (tmL j)) ∈ cF ∨ Cond.not (Cond.eq (tmL j) (tmL i)) ∈ cF := by decide +kernel
theorem lit_rf : ∀ i, i < 6 → Cond.stringRef RL (litIx.getD i 0) (litTx.getD i "") ∈ lw_tbl := by decide +kernel
theorem digOnes_ar : Cond.arrayOf (.static "java/lang/Integer" "DigitOnes" "[B") .byte ∈ cF := by decide +kernel
theorem digOnes_le : Cond.eq (.length (.static "java/lang/Integer" "DigitOnes" "[B")) (.int 100) ∈ cF := by decide +kernel
theorem digOnes_el : ∀ j, j < 100 → Cond.eq (.elem (.static "java/lang/Integer" "DigitOnes" "[B") (.int (Int32.ofNat j))) (.int (Int32.ofNat (48 + j % 10))) ∈ cF := by decide +kernel
theorem compact_eq : Cond.eq (.static "java/lang/String" "COMPACT_STRINGS" "Z") (.int 1) ∈ cF := by decide +kernel
theorem former_is : Cond.isRef (.static "jdk/internal/util/Preconditions" "SIOOBE_FORMATTER" "Ljava/util/function/BiFunction;") ∈ cF := by decide +kernel
theorem whole_of_E (hE : ∀ G : Gl, gL G ≤ 260 → E G M_law 0 (lsArgs 0 [vS]) [] S0 I0 R0 QL) {p : Program} {e : Env} {s : State} {m : MethodId} {below : List Frame} {meth : Method} {c : Code} (l : Launch) (hflags : l.flags = flags0) {b L : Nat} {xs : Nat → Int32} (hL : L ≤ 260) (C0 : lw_At p s m meth c b L xs) : W p l e room_1 s m #[Value.ref b] below meth c s.heap [] 0 0 (lw_Z below #[Value.ref b] s) (entryFrame m ([Value.ref b] : List Value).toArray 9) := by
  obtain ⟨hx, hb, hr, hml, hown, hts, hX, hbl, hlocks, hgv⟩ := id C0
  have kn : ∀ ci, ci < 11 → ∃ (cC : ClassId) (iS : Nat → Nat), u_Kn s (clC ci) (clT ci) (clN ci) cC iS := fun ci hci => u_known (n := clN ci) (lw_all hts) (fun w hw => (clOK_all ci hci).2.1 w hw) (hts (.instantiable (clC ci) (clN ci)) (by
    have : ∀ ci, ci < 11 → Cond.instantiable (clC ci) (clN ci) ∈ lw_tbl := by decide +kernel
    exact this ci hci))
  obtain ⟨dC, hdC⟩ : ∃ dC : Nat → ClassId, ∀ ci, ci < 11 → ∃ iS : Nat → Nat, u_Kn s (clC ci) (clT ci) (clN ci) (dC ci) iS :=
    ⟨fun ci => if h : ci < 11 then Classical.choose (kn ci h) else 0, fun ci h => by simp only [h, dif_pos]; exact Classical.choose_spec (kn ci h)⟩
  obtain ⟨dI, hdI⟩ : ∃ dI : Nat → Nat → Nat, ∀ ci, ci < 11 → u_Kn s (clC ci) (clT ci) (clN ci) (dC ci) (dI ci) :=
    ⟨fun ci => if h : ci < 11 then Classical.choose (hdC ci h) else fun _ => 0, fun ci h => by simp only [h, dif_pos]; exact Classical.choose_spec (hdC ci h)⟩
  obtain ⟨a0, ha0⟩ := arr_ok (hts (.arrayClass .int) (by decide +kernel)) (fun _ h => by cases h)
  obtain ⟨a1, ha1⟩ := arr_ok (hts (.arrayClass .byte) (by decide +kernel)) (fun _ h => by cases h)
  have w3 := hts (.arrayOver (.object RX5)) (by decide +kernel)
  have w4 := hts (.arrayOver (.object RX1)) (by decide +kernel)
  have w5 := hts (.arrayOver (.object RX2)) (by decide +kernel)
  have w6 := hts (.arrayOver (.array .int)) (by decide +kernel)
  obtain ⟨a3, ha3⟩ := arr_okO w3
  obtain ⟨a4, ha4⟩ := arr_okO w4
  obtain ⟨a5, ha5⟩ := arr_okO w5
  obtain ⟨a6, ha6⟩ := arr_okA w6
  have hK : va_K (dC, dI) vwCl [(a0, .int), (a1, .byte), (a0, .int), (a3, .object RX5), (a4, .object RX1), (a5, .object RX2), (a6, .array .int)] s := by
    refine ⟨fun k q hq => ?_, fun k q hq => ?_⟩
    · have hk : k < 11 := (List.getElem?_eq_some_iff.mp hq).1
      have h1 := (clOK_all k hk).1
      rw [hq] at h1
      cases Option.some.inj h1
      exact hdI k hk
    · match k, hq with
      | 0, hq => cases hq; exact ha0
      | 1, hq => cases hq; exact ha1
      | 2, hq => cases hq; exact ha0
      | 3, hq => cases hq; exact ha3
      | 4, hq => cases hq; exact ha4
      | 5, hq => cases hq; exact ha5
      | 6, hq => cases hq; exact ha6
      | k + 7, hq => simp at hq
  have hfl := flat_of_before _ hgv
  have hAo : ∀ a : Nat, a < s.heap.size → ¬ s.heap.size ≤ a := fun a h1 h2 => by omega
  obtain ⟨adK, adV, hvS, hvE⟩ := vk_Sof (args := #[Value.ref b]) (s := s) (N := 6) (tm := tmL) (len := litLen) (byt := litByt) (A := fun q => s.heap.size ≤ q) (by decide +kernel) (fun i hi => hfl _ (lit_ex i hi)) (fun i hi => hfl _ (lit_co i hi)) (fun i hi => hfl _ (lit_ar i hi)) (fun i hi => hfl _ (lit_le i hi)) (fun i hi j hj => hfl _ (lit_el i hi j hj)) (fun i j hi hj hij => (lit_ne i hi j hj hij).imp (hfl _) (hfl _)) hAo
  have hvC : va_Z "java/lang/String" "COMPACT_STRINGS" "Z" (.int 1) (fun q => s.heap.size ≤ q) s s.heap := va_Zof (hts _ (by decide +kernel)) (hts _ (by decide +kernel)) (va_eqi (hfl _ compact_eq)) hAo
  obtain ⟨tF, htF⟩ : ∃ o : Option Nat, va_Z "jdk/internal/util/Preconditions" "SIOOBE_FORMATTER" "Ljava/util/function/BiFunction;" (va_rf o) (fun q => s.heap.size ≤ q) s s.heap := by
    obtain ⟨v, hv, hr⟩ := Cond.isRef_spec (hfl _ former_is)
    have hz := va_Zof (A := fun q => s.heap.size ≤ q) (v := v) (hts (.laysStatic "jdk/internal/util/Preconditions" "SIOOBE_FORMATTER" "Ljava/util/function/BiFunction;") (by decide +kernel)) (hts (.initialized "jdk/internal/util/Preconditions") (by decide +kernel)) hv hAo
    cases v with
    | null => exact ⟨none, hz⟩
    | ref a => exact ⟨some a, hz⟩
    | _ => cases hr
  obtain ⟨tD, htD, hTD⟩ := va_Tof (args := #[Value.ref b]) (s := s) (tm := .static "java/lang/Integer" "DigitOnes" "[B") (ty := .byte) (N := 100) (f := fun j => .int (Int32.ofNat (48 + j % 10))) (A := fun q => s.heap.size ≤ q) (by decide +kernel) (hfl _ digOnes_ar) (va_eqt (hfl _ digOnes_le)) (fun j hj => va_eqt (hfl _ (digOnes_el j hj))) hAo
  have hZD : va_Z "java/lang/Integer" "DigitOnes" "[B" (.ref tD) (fun q => s.heap.size ≤ q) s s.heap := va_Zof (hts (.laysStatic "java/lang/Integer" "DigitOnes" "[B") (by decide +kernel)) (hts (.initialized "java/lang/Integer") (by decide +kernel)) htD hAo
  obtain ⟨gAf, hgA⟩ : ∃ f : Nat → Option Nat, f = fun k => if k < 6 then some (adK k) else if k < 12 then some (adV (k - 6)) else if k = 12 then tF else some tD := ⟨_, rfl⟩
  generalize hG : ((s.heap.size, b, L, xs, (dC, dI), [(a0, .int), (a1, .byte), (a0, .int), (a3, .object RX5), (a4, .object RX1), (a5, .object RX2), (a6, .array .int)], gAf) : Gl) = G
  have gB1 : gB G = s.heap.size := by rw [← hG]; rfl
  have gb1 : gb G = b := by rw [← hG]; rfl
  have gL1 : gL G = L := by rw [← hG]; rfl
  have gX1 : gX G = xs := by rw [← hG]; rfl
  have gK1 : va_K (gD G) vwCl (gT G) s := by rw [← hG]; exact hK
  have gT1 : (gT G).map Prod.snd = atyL := by rw [← hG]; rfl
  have o1 : okS S0 := ⟨Nat.le_refl _, fun a ha => absurd rfl ha⟩
  have o2 : okI S0 I0 := fun a j => irng0 _
  obtain ⟨S', I', R', v, ⟨rfl, hN, hU⟩, p1, p2, p3, hrun⟩ := hE G (by rw [gL1]; exact hL) o1 o2 (lok_args 0 [vS] (fun _ _ => by simp_all [vok])) (fun _ h => by cases h)
  have hl := lv_entry ([Value.ref b] : List Value) (n := 9) (Nat.le_of_ble_eq_true rfl)
  rw [lg_entry_eq]
  have gO1 : ∀ k, gO G (k + 1) = gAf k := by intro k; rw [← hG]; rfl
  have hEx : ExW G s s.heap := by
    refine ⟨⟨fun w hw => ?_, w3, w4, w5, w6, va_Nw.of rfl (hts (.castable "[B" "java/lang/Cloneable") (by decide +kernel))⟩, ?_⟩
    rotate_left
    · unfold va_Old
      rw [gB1]
      refine ⟨vk_S_congr hvS (fun i hi => ?_), fun i hi => ?_, hvC, ?_, ?_, ?_, fun k hk hk2 => ?_⟩
      · refine ⟨?_, ?_⟩
        · unfold gA
          rw [gO1, hgA]
          simp only [if_pos hi, Option.getD_some]
        · unfold gA
          rw [show i + 7 = (i + 6) + 1 by omega, gO1, hgA]
          simp only [if_neg (show ¬ i + 6 < 6 by omega), if_pos (show i + 6 < 12 by omega), Option.getD_some, Nat.add_sub_cancel]
      · have e9 : gA G (i + 1) = adK i := by
          unfold gA
          rw [gO1, hgA]
          simp only [if_pos hi, Option.getD_some]
        rw [e9]
        exact vk_R.of (hts _ (lit_rf i hi)) (hvE i hi)
      · have e9 : mv G (vO 13) = va_rf tF := by
          show va_rf (gO G (12 + 1)) = _
          rw [gO1, hgA]
          rfl
        rw [e9]
        exact htF
      · have e9 : gA G 14 = tD := by
          show (gO G (13 + 1)).getD 0 = tD
          rw [gO1, hgA]
          rfl
        rw [e9]
        exact hZD
      · have e9 : gA G 14 = tD := by
          show (gO G (13 + 1)).getD 0 = tD
          rw [gO1, hgA]
          rfl
        rw [e9]
        exact hTD
      · rw [gO1, hgA]
        simp only []
        by_cases h1 : k < 6
        · exact ⟨_, if_pos h1⟩
        · rw [if_neg h1]
          by_cases h2 : k < 12
          · exact ⟨_, if_pos h2⟩
          · rw [if_neg h2, if_neg hk2]
            exact ⟨_, rfl⟩
    have h1 := List.mem_filter.mp hw
    have h2 := hts w h1.1
    have h3 := h1.2
    cases w with
    | methodLinkNest a i x hh => exact va_Nw.of rfl h2
    | _ => cases h3
  have hmls : lv_args 0 [Value.ref b] = mls G (lsArgs 0 [vS]) := by
    show [(0, Value.ref b)] = [(0, Value.ref (gb G))]
    rw [gb1]
  rw [hmls] at hl
  have hn1 : sN S0 = 1 := rfl
  have hu1 : sU S0 = 0 := rfl
  refine hrun.2.2 p l e room_1 s m #[Value.ref b] below meth c s.heap [] 0 0 _ _ ⟨hx, hb, hml, hown, lw_all hts, hr, hlocks, fun h => absurd h (by decide), gK1, gT1, by decide, by decide, by rw [gB1]; exact Nat.le_refl _, by rw [gb1, gB1]; exact hbl, by rw [gb1, gL1, gX1]; exact hX, by rw [gL1]; exact hL, hEx⟩ (by rw [hn1]; show _ ≤ 600000; omega) (by rw [hu1]; show _ ≤ 7302250; omega) ⟨hl, ⟨fun k q h => ?_, by rw [gB1]; rfl⟩, va_S.rf⟩ ?_
  · have : (wsOf G S0 I0 R0)[k]? = none := List.getElem?_eq_none (by rw [wsOf_len]; exact Nat.zero_le _)
    rw [this] at h
    cases h
  · intro Hm' locs' pc' ls' hM' hS' hret
    refine va_forget (fun q hq => by have := hS'.2.2 q hq; rw [gB1] at this; exact this) ?_
    refine W.widen (k := 600000) (n := 7302250) (by rw [hn1]; omega) (by rw [hu1]; omega) ?_
    rcases hret with ⟨x, hx1, hd, -⟩ | ⟨r, hx1, -⟩ | ⟨hx1, -⟩
    · cases hx1
      exact lw_ret hx hb hr hlocks hd
    · cases hx1
    · cases hx1
