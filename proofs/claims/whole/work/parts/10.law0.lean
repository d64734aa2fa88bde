-- ===== end of PART A; then your names; then what follows =====
/-! THE CLAIM OUT OF ONE WALK OF THE LAW'S BODY. Your part is whole_start (and what it stands on); all else here is the same for every law, but numbers. -/
def R_law : String := "StairsNearLaw"
def lw_P (b : Addr) (xs : List Int32) (args : Array Value) (s : State) : Prop := args = #[.ref b] ∧ s.IntsAt b xs ∧ xs.length ≤ 3072 ∧ (Jvm.Cond.and given_1 narrow_1).before args s = true
def lw_Q (_ : Array Value) (s : State) (o : Outcome) (t : State) : Prop := o = .returned (some (.int 1)) ∧ Framed s o t [] 600000 7302250
def lw_Z (below : List Frame) (a : Array Value) (s : State) : State → Prop := fun t => ∃ o, t.status = .running ∧ Ended t below o ∧ lw_Q a s o t
/-- the law's own end, with 1 on the stack, nothing written that was there before, its room as the claim has it -/
theorem lw_ret {p : Program} {l : Launch} {e : Env} {s : State} {m : MethodId} {below : List Frame} {meth : Method} {c : Code} {b : Nat} (hx : p.tables.exec = Jvm.exec) (hb : c.code = code) (hr : meth.sig.returnType = ret) (hlocks : meth.locks = false) {pc : Nat} {H : Heap} {ls : Array Slot} (hdg : decode code pc = .ok (.ireturn, 1)) : W p l e room_1 s m #[Value.ref b] below meth c H [] 600000 7302250 (lw_Z below #[Value.ref b] s) (F0 m pc ls [.int 1]) := by
  intro T hT X
  obtain ⟨fs, hret, hrun, hended, hW, hframe⟩ := X.leave (v := some (.int 1)) (hlocks := hlocks) (fun h => by rw [hr] at h; cases h)
  have hmeth' : T.vm.method? m = some meth := X.method'
  refine ⟨T.setFrames fs, ?_, .returned (some (.int 1)), hrun, hended, rfl, ⟨_, rfl⟩, hW, hframe⟩
  jvm_step X.here [X.here.top, hx, hb, hdg, hmeth', hr, ret, narrow_b1]
  (try refine ⟨rfl, ?_⟩); (try refine ⟨rfl, ?_⟩)
  first | (intro acts; rw [hret _ acts rfl rfl rfl]) | rw [hret _ _ rfl rfl rfl]
  exact Steps.refl _
/-- what holds at the law's entry: the machine, the code, the tables' words (any of lw_tbl by 'hts w (by decide +kernel)'), the script of L ints xs at the cell b, what the Statement gives of the start (any of its parts by flat_of_before) -/
def lw_At (p : Program) (s : State) (m : MethodId) (meth : Method) (c : Code) (b L : Nat) (xs : Nat → Int32) : Prop :=
  p.tables.exec = Jvm.exec ∧ c.code = code ∧ meth.sig.returnType = ret ∧ c.maxLocals = 4 ∧ s.vm.findClass R_law = some m.cls ∧ (∀ w ∈ lw_tbl, w.before #[Value.ref b] s = true) ∧ va_X b L xs s s.heap ∧ b < s.heap.size ∧ meth.locks = false ∧ (Jvm.Cond.and given_1 narrow_1).before #[Value.ref b] s = true
theorem arr_ok {U : State} {args : Array Value} {ty : FieldType} (h : (Cond.arrayClass ty).before args U = true) (ho : ∀ C, ty ≠ .object C) : ∃ cA : ClassId, ArrOfT U cA ty ∧ va_RA U cA ty := by
  obtain ⟨c, k, comp, h1, h2, h3⟩ := Cond.arrayClass_spec h
  refine ⟨c, fun N z => ⟨(fun q hq => by cases hq), k, h2, comp, h3⟩, ?_⟩
  cases ty <;> first | exact h1 | exact absurd rfl (ho _)
theorem arr_okO {U : State} {args : Array Value} {C : String} (h : (Cond.arrayOver (.object C)).before args U = true) : ∃ cA : ClassId, ArrOfT U cA (.object C) ∧ va_RA U cA (.object C) := by
  obtain ⟨comp, c, k, h1, h2, h3, h4, h5⟩ := Cond.arrayOver_spec h
  exact ⟨c, fun N z => ⟨(fun q hq => by cases hq), k, h3, comp, h4⟩, k, comp, h3, h4, h1, h5⟩
theorem arr_okA {U : State} {args : Array Value} {t : FieldType} (h : (Cond.arrayOver (.array t)).before args U = true) : ∃ cA : ClassId, ArrOfT U cA (.array t) ∧ va_RA U cA (.array t) := by
  obtain ⟨comp, c, k, h1, h2, h3, h4, h5⟩ := arrayOverA_spec h
  exact ⟨c, fun N z => ⟨(fun q hq => by cases hq), k, h3, comp, h4⟩, h5⟩
def QL : PQ := fun S' _ _ v => v = vI 1 ∧ sN S' ≤ 600000 ∧ sU S' ≤ 7302250
theorem whole_of_E (hE : ∀ G : Gl, gL G ≤ 3072 → E G M_law 0 (lsArgs 0 [vS]) [] S0 I0 R0 QL) {p : Program} {e : Env} {s : State} {m : MethodId} {below : List Frame} {meth : Method} {c : Code} (l : Launch) (hflags : l.flags = flags0) {b L : Nat} {xs : Nat → Int32} (hL : L ≤ 3072) (C0 : lw_At p s m meth c b L xs) : W p l e room_1 s m #[Value.ref b] below meth c s.heap [] 0 0 (lw_Z below #[Value.ref b] s) (entryFrame m ([Value.ref b] : List Value).toArray 4) := by
  obtain ⟨hx, hb, hr, hml, hown, hts, hX, hbl, hlocks, hgv⟩ := id C0
  have kn : ∀ ci, ci < 10 → ∃ (cC : ClassId) (iS : Nat → Nat), u_Kn s (clC ci) (clT ci) (clN ci) cC iS := fun ci hci => u_known (n := clN ci) hts (fun w hw => (List.mem_filter.mp ((clOK_all ci hci).2.1 w hw)).1) (hts (.instantiable (clC ci) (clN ci)) (by
    have : ∀ ci, ci < 10 → Cond.instantiable (clC ci) (clN ci) ∈ lw_tbl := by decide +kernel
    exact this ci hci))
  obtain ⟨dC, hdC⟩ : ∃ dC : Nat → ClassId, ∀ ci, ci < 10 → ∃ iS : Nat → Nat, u_Kn s (clC ci) (clT ci) (clN ci) (dC ci) iS :=
    ⟨fun ci => if h : ci < 10 then Classical.choose (kn ci h) else 0, fun ci h => by simp only [h, dif_pos]; exact Classical.choose_spec (kn ci h)⟩
  obtain ⟨dI, hdI⟩ : ∃ dI : Nat → Nat → Nat, ∀ ci, ci < 10 → u_Kn s (clC ci) (clT ci) (clN ci) (dC ci) (dI ci) :=
    ⟨fun ci => if h : ci < 10 then Classical.choose (hdC ci h) else fun _ => 0, fun ci h => by simp only [h, dif_pos]; exact Classical.choose_spec (hdC ci h)⟩
  obtain ⟨a0, ha0⟩ := arr_ok (hts (.arrayClass .int) (by decide +kernel)) (fun _ h => by cases h)
  obtain ⟨a1, ha1⟩ := arr_ok (hts (.arrayClass .byte) (by decide +kernel)) (fun _ h => by cases h)
  obtain ⟨a2, ha2⟩ := arr_ok (hts (.arrayClass .boolean) (by decide +kernel)) (fun _ h => by cases h)
  have w3 := hts (.arrayOver (.object RX5)) (by decide +kernel)
  have w4 := hts (.arrayOver (.object RX1)) (by decide +kernel)
  have w5 := hts (.arrayOver (.object RX2)) (by decide +kernel)
  have w6 := hts (.arrayOver (.array .int)) (by decide +kernel)
  obtain ⟨a3, ha3⟩ := arr_okO w3
  obtain ⟨a4, ha4⟩ := arr_okO w4
  obtain ⟨a5, ha5⟩ := arr_okO w5
  obtain ⟨a6, ha6⟩ := arr_okA w6
  have hK : va_K (dC, dI) vwCl [(a0, .int), (a1, .byte), (a2, .boolean), (a3, .object RX5), (a4, .object RX1), (a5, .object RX2), (a6, .array .int)] s := by
    refine ⟨fun k q hq => ?_, fun k q hq => ?_⟩
    · have hk : k < 10 := (List.getElem?_eq_some_iff.mp hq).1
      have h1 := (clOK_all k hk).1
      rw [hq] at h1
      cases Option.some.inj h1
      exact hdI k hk
    · match k, hq with
      | 0, hq => cases hq; exact ha0
      | 1, hq => cases hq; exact ha1
      | 2, hq => cases hq; exact ha2
      | 3, hq => cases hq; exact ha3
      | 4, hq => cases hq; exact ha4
      | 5, hq => cases hq; exact ha5
      | 6, hq => cases hq; exact ha6
      | k + 7, hq => simp at hq
  generalize hG : ((s.heap.size, b, L, xs, (dC, dI), [(a0, .int), (a1, .byte), (a2, .boolean), (a3, .object RX5), (a4, .object RX1), (a5, .object RX2), (a6, .array .int)]) : Gl) = G
  have gB1 : gB G = s.heap.size := by rw [← hG]; rfl
  have gb1 : gb G = b := by rw [← hG]; rfl
  have gL1 : gL G = L := by rw [← hG]; rfl
  have gX1 : gX G = xs := by rw [← hG]; rfl
  have gK1 : va_K (gD G) vwCl (gT G) s := by rw [← hG]; exact hK
  have gT1 : (gT G).map Prod.snd = atyL := by rw [← hG]; rfl
  have o1 : okS S0 := ⟨Nat.le_refl _, fun a ha => absurd rfl ha⟩
  have o2 : okI S0 I0 := fun a j => irng0 _
  obtain ⟨S', I', R', v, ⟨rfl, hN, hU⟩, p1, p2, p3, hrun⟩ := hE G (by rw [gL1]; exact hL) o1 o2 (lok_args 0 [vS] (fun _ _ => by simp_all [vok])) (fun _ h => by cases h)
  have hl := lv_entry ([Value.ref b] : List Value) (n := 4) (Nat.le_of_ble_eq_true rfl)
  rw [lg_entry_eq]
  have hEx : ExW s := by
    refine ⟨fun w hw => ?_, w3, w4, w5, w6⟩
    have h1 := List.mem_filter.mp hw
    have h2 := hts w h1.1
    have h3 := h1.2
    cases w with
    | methodLinkNest a i x hh => exact va_Nw.of rfl h2
    | _ => cases h3
  have hmls : lv_args 0 [Value.ref b] = mls G (lsArgs 0 [vS]) := by
    show [(0, Value.ref b)] = [(0, Value.ref (gb G))]
    rw [gb1]
  rw [hmls] at hl
  have hn1 : sN S0 = 1 := rfl
  have hu1 : sU S0 = 0 := rfl
  refine hrun.2.2 p l e room_1 s m #[Value.ref b] below meth c s.heap [] 0 0 _ _ ⟨hx, hb, hml, hown, fun w hw => hts w (List.mem_filter.mp hw).1, hr, hlocks, fun h => absurd h (by decide), gK1, gT1, by decide, by decide, by rw [gB1]; exact Nat.le_refl _, by rw [gb1, gB1]; exact hbl, by rw [gb1, gL1, gX1]; exact hX, by rw [gL1]; exact hL, hEx⟩ (by rw [hn1]; show _ ≤ 600000; omega) (by rw [hu1]; show _ ≤ 7302250; omega) ⟨hl, ⟨fun k q h => ?_, by rw [gB1]; rfl⟩, va_S.rf⟩ ?_
  · have : (wsOf G S0 I0 R0)[k]? = none := List.getElem?_eq_none (by rw [wsOf_len]; exact Nat.zero_le _)
    rw [this] at h
    cases h
  · intro Hm' locs' pc' ls' hM' hS' hret
    refine va_forget (fun q hq => by have := hS'.2.2 q hq; rw [gB1] at this; exact this) ?_
    refine W.widen (k := 600000) (n := 7302250) (by rw [hn1]; omega) (by rw [hu1]; omega) ?_
    rcases hret with ⟨x, hx1, hd, -⟩ | ⟨r, hx1, -⟩ | ⟨hx1, -⟩
    · cases hx1
      exact lw_ret hx hb hr hlocks hd
    · cases hx1
    · cases hx1
