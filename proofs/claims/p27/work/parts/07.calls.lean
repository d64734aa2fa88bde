/-! ===== THE WALK: calls and returns ===== -/
theorem lw_good : GoodIn lw_t2 lw_t2 := fun w h => ⟨h, good_of_word (lw_gd h)⟩
section RT
variable {G : Gl} {μ : MB} {pc pc2 : Nat} {ls ls2 : Lc} {st st2 : List PV} {S S2 : Sh} {I I2 : MI} {R R2 : MR} {Q : PQ} {idx ci f a : Nat} {i x y : Int}
theorem e_retC {v : PV} (hst : retst G v = st.map (mv G)) (hr : okV st → vok v ∧ IsRet μ pc v) (hq : Q S I R v) : E G μ pc ls st S I R Q := by
  intro o1 o2 o3 o4
  refine ⟨S, I, R, v, hq, o1, o2, (hr o4).1, Nat.le_refl _, Nat.le_refl _, ?_⟩
  intro p l e Rm s m args below meth c Hm locs cells slots lsM Z hC hc hs hF kk
  have := kk Hm locs pc lsM hF.2.1 hF.2.2 (hr o4).2
  rw [hst] at this
  simpa using this
theorem e_ireturn (hd : decode (mC μ) pc = .ok (.ireturn, 1)) (hr : mR μ = some .int) (hq : Q S I R (vI x)) : E G μ pc ls [vI x] S I R Q :=
  e_retC (v := vI x) rfl (fun o => ⟨vok_hd o, Or.inl ⟨x, rfl, hd, Or.inl hr⟩⟩) hq
theorem e_zreturn (hd : decode (mC μ) pc = .ok (.ireturn, 1)) (hr : mR μ = some .boolean) (hx : x = 0 ∨ x = 1) (hq : Q S I R (vI x)) : E G μ pc ls [vI x] S I R Q :=
  e_retC (v := vI x) rfl (fun o => ⟨vok_hd o, Or.inl ⟨x, rfl, hd, Or.inr (Or.inl ⟨hr, hx⟩)⟩⟩) hq
theorem e_breturn (hd : decode (mC μ) pc = .ok (.ireturn, 1)) (hr : mR μ = some .byte) (hx : -128 ≤ x ∧ x < 128) (hq : Q S I R (vI x)) : E G μ pc ls [vI x] S I R Q :=
  e_retC (v := vI x) rfl (fun o => ⟨vok_hd o, Or.inl ⟨x, rfl, hd, Or.inr (Or.inr (Or.inl ⟨hr, hx⟩))⟩⟩) hq
theorem e_creturn (hd : decode (mC μ) pc = .ok (.ireturn, 1)) (hr : mR μ = some .char) (hx : 0 ≤ x ∧ x < 65536) (hq : Q S I R (vI x)) : E G μ pc ls [vI x] S I R Q :=
  e_retC (v := vI x) rfl (fun o => ⟨vok_hd o, Or.inl ⟨x, rfl, hd, Or.inr (Or.inr (Or.inr ⟨hr, hx⟩))⟩⟩) hq
theorem e_areturn {r : Nat} {C : String} (hd : decode (mC μ) pc = .ok (.areturn, 1)) (hr : ∃ n, mR μ = some (.object n)) (hq : Q S I R (vR r)) : E G μ pc ls [vR r] S I R Q := by
  obtain ⟨n, hr⟩ := hr
  exact e_retC (v := vR r) rfl (fun o => ⟨vok_hd o, Or.inr (Or.inl ⟨r, rfl, hd, _, hr, Or.inl ⟨n, rfl⟩⟩)⟩) hq
theorem e_areturnA {r : Nat} (hd : decode (mC μ) pc = .ok (.areturn, 1)) (hr : ∃ n, mR μ = some (.array n)) (hq : Q S I R (vR r)) : E G μ pc ls [vR r] S I R Q := by
  obtain ⟨n, hr⟩ := hr
  exact e_retC (v := vR r) rfl (fun o => ⟨vok_hd o, Or.inr (Or.inl ⟨r, rfl, hd, _, hr, Or.inr ⟨n, rfl⟩⟩)⟩) hq
theorem e_return (hd : decode (mC μ) pc = .ok (.return_, 1)) (hr : mR μ = none) (hq : Q S I R vS) : E G μ pc ls [] S I R Q :=
  e_retC (v := vS) rfl (fun o => ⟨trivial, Or.inr (Or.inr ⟨rfl, hd, hr⟩)⟩) hq
end RT
def lsArgs : Nat → List PV → Lc
  | _, [] => []
  | i, v :: vs => (i, v) :: lsArgs (i + pcat v) vs
theorem mls_args (G : Gl) : ∀ (i : Nat) (vs : List PV), lv_args i (vs.map (mv G)) = mls G (lsArgs i vs)
  | _, [] => rfl
  | i, v :: vs => by
    show (i, mv G v) :: lv_args (if (mv G v).category = 2 then i + 2 else i + 1) (vs.map (mv G)) = (i, mv G v) :: mls G (lsArgs (i + pcat v) vs)
    have h : (if (mv G v).category = 2 then i + 2 else i + 1) = i + pcat v := by
      rw [mv_cat]
      unfold pcat
      split <;> rfl
    rw [h, mls_args]
theorem sl_len (G : Gl) : ∀ vs : List PV, (lg_sl (vs.map (mv G))).length = (vs.map pcat).sum
  | [] => rfl
  | v :: vs => by
    have h := sl_len G vs
    show ((if (mv G v).category = 2 then [Slot.val (mv G v), Slot.second] else [Slot.val (mv G v)]) ++ lg_sl (vs.map (mv G))).length = pcat v + (vs.map pcat).sum
    rw [List.length_append, h, mv_cat]
    congr 1
    unfold pcat
    split <;> rfl
theorem lok_args : ∀ (i : Nat) (vs : List PV), okV vs → okL (lsArgs i vs)
  | _, [], _ => fun _ h => by cases h
  | i, v :: vs, h => lok_cons (vok_hd h) (lok_args _ vs (vok_tl h))
/-- the outcome of a return -/
def retv (G : Gl) : PV → Option Value
  | .inr (.inr 0) => none
  | v => some (mv G v)
theorem retv_st (G : Gl) (v : PV) : (retv G v).toList = retst G v := by
  match v with
  | .inl (.inl _) => rfl
  | .inl (.inr _) => rfl
  | .inr (.inr 0) => rfl
  | .inr (.inr (_ + 1)) => rfl
  | .inr (.inl 0) => rfl
  | .inr (.inl (_ + 1)) => rfl
def wsM (μ : MB) : List Cond := Cond.code (mY μ) (mC μ) (mL μ) (mR μ) :: lw_t2
def rmM (μ : MB) (mc ms : Nat) : Room := { frames := mK μ, cells := mc, slots := ms, locals := mW μ }
def pcM (G : Gl) (as : List PV) (S : Sh) (I : MI) (R : MR) : Array Value → State → Prop := fun a U => a = (as.map (mv G)).toArray ∧ MRel G S I R U.heap ∧ va_K (gD G) vwCl (gT G) U ∧ gB G ≤ U.heap.size ∧ va_X (gb G) (gL G) (gX G) U U.heap ∧ ExW G U U.heap
def qcM (G : Gl) (S : Sh) (I : MI) (R : MR) (v : PV) : Array Value → State → Outcome → State → Prop := fun _ s o t => o = .returned (retv G v) ∧ MRel G S I R t.heap ∧ va_F (fun q => gB G ≤ q) s t
theorem nar_c {x : Int} (h : 0 ≤ x ∧ x < 65536) : narrow .char (.int (Int32.ofInt x)) = .int (Int32.ofInt x) := by
  apply narrow_of_fits
  have e : (Int32.ofInt x).toInt = x := o32 (by unfold InR; omega)
  show ((0 : Int32) ≤ Int32.ofInt x && Int32.ofInt x ≤ (65535 : Int32)) = true
  rw [Bool.and_eq_true, decide_eq_true_iff, decide_eq_true_iff, Int32.le_iff_toInt_le, Int32.le_iff_toInt_le, e]
  exact ⟨h.1, by show x ≤ 65535; omega⟩
theorem met_of {G : Gl} {μ : MB} {l : Launch} {as : List PV} {S S' : Sh} {I I' : MI} {R R' : MR} {v : PV} (hy : plainName (mY μ).cls = true) (hown : mO μ = (mY μ).cls) (hlen : (as.map pcat).sum ≤ mL μ) (hT : (gT G).map Prod.snd = atyL ∧ gb G < gB G ∧ gL G ≤ 260)
    (hr : Run G μ 0 (lsArgs 0 as) [] S I R S' I' R' v) : Met l (mY μ) (wsM μ) (rmM μ (sN S' - sN S) (sU S' - sU S)) (pcM G as S I R) (qcM G S' I' R' v) (sN S' - sN S) (sU S' - sU S) (fun q => gB G ≤ q) := by
  obtain ⟨h1, h2, hrun⟩ := hr
  refine Met.ofW (cc := mC μ) (maxL := mL μ) (ret := mR μ) hy rfl ?_
  intro p e s m args below meth c s₁ B hml hv
  obtain ⟨rfl, hM, hK, hbs, hX, hEx⟩ := hv
  have hts := atoms_spec (ws := wsM μ) B.pre
  have hown' : s.vm.findClass (mY μ).cls = some m.cls := findClass_of_methodNamed B.named
  have hin : meth.name = (mY μ).name := (name_of_methodNamed B.named B.method).1
  have hl := lv_entry (as.map (mv G)) (n := mL μ) (by rw [sl_len]; exact hlen)
  rw [mls_args] at hl
  rw [lg_entry_eq]
  have hrr := B.returns
  have hlocks := B.notSynchronized
  have hbb := B.bytes
  have hxx := B.exec
  refine hrun p l e _ s m _ below meth c s.heap [] 0 0 _ _ ⟨B.exec, B.bytes, hml, by rw [hown]; exact hown', fun w hw => hts w (List.mem_cons_of_mem _ hw), B.returns, B.notSynchronized, fun h => hin.trans h, hK, hT.1, Nat.le_refl _, Nat.le_refl _, hbs, hT.2.1, hX, hT.2.2, hEx⟩ (by show _ ≤ sN S' - sN S; omega) (by show _ ≤ sU S' - sU S; omega) ⟨hl, hM, va_S.rf⟩ ?_
  intro Hm' locs' pc' ls' hM' hS' hret
  rw [Nat.zero_add, Nat.zero_add]
  have hq : ∀ t : State, t.heap = Hm' → s.WarmedH t.vm → qcM G S' I' R' v (as.map (mv G)).toArray s (.returned (retv G v)) t := fun t ht _ => ⟨rfl, by rw [ht]; exact hM', hS'.F ht⟩
  have hf : ∀ q ∈ locs', gB G ≤ q.base := hS'.2.2
  rcases hret with ⟨x, rfl, hd, hmr⟩ | ⟨r, rfl, hd, rt, hmr, hrt⟩ | ⟨rfl, hd, hmr⟩
  · rcases hmr with hmr | ⟨hmr, hx⟩ | ⟨hmr, hx⟩ | ⟨hmr, hx⟩
    · exact W.iret hxx hbb (hrr.trans hmr) hq hf hd hlocks
    · exact W.zret (ty := .boolean) hxx hbb (hrr.trans hmr) (by rcases hx with rfl | rfl <;> rfl) hq hf hd hlocks
    · exact W.zret (ty := .byte) hxx hbb (hrr.trans hmr) (nar_b hx) hq hf hd hlocks
    · exact W.zret (ty := .char) hxx hbb (hrr.trans hmr) (nar_c hx) hq hf hd hlocks
  · have hret1 : retst G (vR r) = [mv G (vR r)] := rfl
    have hretv : retv G (vR r) = some (mv G (vR r)) := rfl
    rw [hretv] at hq
    rw [hret1]
    exact W.aret hxx hbb (hrr.trans hmr) hrt (by cases r with
      | zero => exact Or.inl rfl
      | succ k => exact Or.inr ⟨_, rfl⟩) hq hf hd hlocks
  · exact W.vret hxx hbb (hrr.trans hmr) hq hf hd hlocks
