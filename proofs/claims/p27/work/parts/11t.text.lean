/-! ===== THE WALK: texts, what was there before, methods of a class above ===== -/
def i2c (x : Int) : Int := ((Int32.ofInt x).toUInt32 % 65536).toInt32.toInt
theorem mv_lit {G : Gl} {U : State} {H : Heap} (h : va_Old G U H) {k : Nat} (hk : k < 14) (h2 : k ≠ 12) : mv G (vO (k + 1)) = .ref (gA G (k + 1)) := by
  obtain ⟨a, ha⟩ := h.2.2.2.2.2.2 k hk h2
  show va_rf (gO G (k + 1)) = .ref ((gO G (k + 1)).getD 0)
  rw [ha]
  rfl
theorem cx_old {G : Gl} {μ : MB} {p : Program} {Rm : Room} {s : State} {m : MethodId} {args : Array Value} {meth : Method} {c : Code} (hC : Cx G μ p Rm s m args meth c) : va_Old G s s.heap := hC.2.2.2.2.2.2.2.2.2.2.2.2.2.2.2.2.2
section TX
variable {G : Gl} {μ μ' : MB} {pc pc2 : Nat} {ls ls2 : Lc} {st st2 as : List PV} {S S2 : Sh} {I I2 : MI} {R R2 : MR} {Q Q' : PQ} {idx ci f a n : Nat} {i x y : Int}
theorem e_i2c (hd : decode (mC μ) pc = .ok (.i2c, 1)) (k : E G μ (pc + 1) ls (vI (i2c x) :: st) S I R Q) : E G μ pc ls (vI x :: st) S I R Q :=
  e_go (fun _ _ h => vok_cons (v := vI _) (InR_toInt _) (vok_tl h)) (fun p l e Rm s m args below meth c Hm locs cells slots lsM Z _ _ _ o4 hC hx hb hF kk => lv_i2c (x := Int32.ofInt x) (v := Int32.ofInt (i2c x)) hx hb hd (Int32.ofInt_toInt _).symm kk) k
theorem e_ldcw {index : Nat} (hd : decode (mC μ) pc = .ok (.ldc_w index, 3)) (hw : Jvm.Cond.constant (mO μ) index (Int32.ofInt x) ∈ lw_t2) (hn : InR x) (k : E G μ (pc + 3) ls (vI x :: st) S I R Q) : E G μ pc ls st S I R Q :=
  e_go (fun _ _ h => vok_cons (v := vI _) hn h) (fun p l e Rm s m args below meth c Hm locs cells slots lsM Z _ _ _ _ hC hx hb hF kk => lv_ldcw hx hb hC.2.2.2.1 (hC.2.2.2.2.1 _ hw) hd kk) k
theorem e_dup_x1 {v w : PV} (hd : decode (mC μ) pc = .ok (.dup_x1, 1)) (hv : pcat v = 1) (hw : pcat w = 1) (k : E G μ (pc + 1) ls (v :: w :: v :: st) S I R Q) : E G μ pc ls (v :: w :: st) S I R Q :=
  e_go (fun _ _ h => vok_cons (vok_hd h) (vok_cons (vok_hd (vok_tl h)) (vok_cons (vok_hd h) (vok_tl (vok_tl h))))) (fun p l e Rm s m args below meth c Hm locs cells slots lsM Z _ _ _ _ hC hx hb hF kk => lv_dup_x1 hx hb hd ((mv_cat G v).trans hv) ((mv_cat G w).trans hw) kk) k
theorem e_ldcS {j : Nat} (hj : j < 6) (ho : mO μ = RL) (hd : decode (mC μ) pc = .ok (.ldc (litIx.getD j 0), 2)) (k : E G μ (pc + 2) ls (vO (j + 1) :: st) S I R Q) : E G μ pc ls st S I R Q := by
  refine e_go (fun _ _ h => vok_cons (v := vO (j + 1)) trivial h) (fun p l e Rm s m args below meth c Hm locs cells slots lsM Z _ _ _ _ hC hx hb hF kk => ?_) k
  rw [List.map_cons, mv_lit (cx_old hC) (show j < 14 by omega) (by omega)] at kk
  exact va_ldcS hx hb (by rw [← ho]; exact hC.2.2.2.1) ((cx_old hC).2.1 j hj) hd kk
theorem e_getsC (hd : decode (mC μ) pc = .ok (.getstatic idx, 3)) (hw : Cond.fieldLink (mO μ) idx "java/lang/String" "COMPACT_STRINGS" "Z" ∈ lw_t2) (k : E G μ (pc + 3) ls (vI 1 :: st) S I R Q) : E G μ pc ls st S I R Q :=
  e_go (fun _ _ h => vok_cons (v := vI 1) (by show InR 1; unfold InR; omega) h) (fun p l e Rm s m args below meth c Hm locs cells slots lsM Z _ _ _ _ hC hx hb hF kk => va_gets hx hb (cx_old hC).2.2.1 hF.2.2 hC.2.2.2.1 (hC.2.2.2.2.1 _ hw) (fun _ h => h) hd kk) k
theorem e_getsF (hd : decode (mC μ) pc = .ok (.getstatic idx, 3)) (hw : Cond.fieldLink (mO μ) idx "jdk/internal/util/Preconditions" "SIOOBE_FORMATTER" "Ljava/util/function/BiFunction;" ∈ lw_t2) (k : E G μ (pc + 3) ls (vO 13 :: st) S I R Q) : E G μ pc ls st S I R Q :=
  e_go (fun _ _ h => vok_cons (v := vO 13) trivial h) (fun p l e Rm s m args below meth c Hm locs cells slots lsM Z _ _ _ _ hC hx hb hF kk => va_gets hx hb (cx_old hC).2.2.2.1 hF.2.2 hC.2.2.2.1 (hC.2.2.2.2.1 _ hw) (fun _ h => h) hd kk) k
theorem e_getsD (hd : decode (mC μ) pc = .ok (.getstatic idx, 3)) (hw : Cond.fieldLink (mO μ) idx "java/lang/Integer" "DigitOnes" "[B" ∈ lw_t2) (k : E G μ (pc + 3) ls (vO 14 :: st) S I R Q) : E G μ pc ls st S I R Q := by
  refine e_go (fun _ _ h => vok_cons (v := vO 14) trivial h) (fun p l e Rm s m args below meth c Hm locs cells slots lsM Z _ _ _ _ hC hx hb hF kk => ?_) k
  rw [List.map_cons, mv_lit (cx_old hC) (show 13 < 14 by omega) (by omega)] at kk
  exact va_gets hx hb (cx_old hC).2.2.2.2.1 hF.2.2 hC.2.2.2.1 (hC.2.2.2.2.1 _ hw) (fun _ h => h) hd kk
theorem e_baldD (hd : decode (mC μ) pc = .ok (.baload, 1)) (hi : 0 ≤ i ∧ i < 100) (k : E G μ (pc + 1) ls (vI (48 + i % 10) :: st) S I R Q) : E G μ pc ls (vI i :: vO 14 :: st) S I R Q := by
  refine e_go (fun _ _ h => vok_cons (v := vI _) (by show InR _; unfold InR; omega) (vok_tl (vok_tl h))) (fun p l e Rm s m args below meth c Hm locs cells slots lsM Z _ _ _ o4 hC hx hb hF kk => ?_) k
  have hi2 : InR i := vok_hd o4
  rw [List.map_cons, List.map_cons, mv_lit (cx_old hC) (show 13 < 14 by omega) (by omega)]
  refine va_tb hx hb (cx_old hC).2.2.2.2.2.1 hF.2.2 (i := Int32.ofInt i) (in_of (n := 100) hi2 hi) (v := .int (Int32.ofInt (48 + i % 10))) ?_ hd kk
  rw [cl_of hi2]
  show Value.int (Int32.ofInt ((48 + i.toNat % 10 : Nat) : Int)) = _
  congr 2
  omega
theorem e_getLc {j : Nat} (hj : j < 6) (hd : decode (mC μ) pc = .ok (.getfield idx, 3)) (hw : Cond.fieldLink (mO μ) idx "java/lang/String" "coder" "B" ∈ lw_t2) (k : E G μ (pc + 3) ls (vI 0 :: st) S I R Q) : E G μ pc ls (vO (j + 1) :: st) S I R Q := by
  refine e_go (fun _ _ h => vok_cons (v := vI 0) (by show InR 0; unfold InR; omega) (vok_tl h)) (fun p l e Rm s m args below meth c Hm locs cells slots lsM Z _ _ _ _ hC hx hb hF kk => ?_) k
  rw [List.map_cons, mv_lit (cx_old hC) (show j < 14 by omega) (by omega)]
  exact vk_getf hx hb ((cx_old hC).1.1 j hj).2.1 hF.2.2 hC.2.2.2.1 (hC.2.2.2.2.1 _ hw) (fun _ h => h) hd kk
theorem e_getLv {j : Nat} (hj : j < 6) (hd : decode (mC μ) pc = .ok (.getfield idx, 3)) (hw : Cond.fieldLink (mO μ) idx "java/lang/String" "value" "[B" ∈ lw_t2) (k : E G μ (pc + 3) ls (vO (j + 7) :: st) S I R Q) : E G μ pc ls (vO (j + 1) :: st) S I R Q := by
  refine e_go (fun _ _ h => vok_cons (v := vO (j + 7)) trivial (vok_tl h)) (fun p l e Rm s m args below meth c Hm locs cells slots lsM Z _ _ _ _ hC hx hb hF kk => ?_) k
  rw [List.map_cons, mv_lit (cx_old hC) (show j < 14 by omega) (by omega)]
  rw [List.map_cons, show j + 7 = (j + 6) + 1 by omega, mv_lit (cx_old hC) (show j + 6 < 14 by omega) (by omega)] at kk
  exact vk_getf hx hb ((cx_old hC).1.1 j hj).2.2.1 hF.2.2 hC.2.2.2.1 (hC.2.2.2.2.1 _ hw) (fun _ h => h) hd kk
theorem litLen_le : ∀ j, j < 6 → litLen.getD j 0 ≤ 2 := by decide +kernel
theorem e_lenL {j : Nat} (hj : j < 6) (hd : decode (mC μ) pc = .ok (.arraylength, 1)) (k : E G μ (pc + 1) ls (vI (litLen.getD j 0 : Int) :: st) S I R Q) : E G μ pc ls (vO (j + 7) :: st) S I R Q := by
  have hl := litLen_le j hj
  refine e_go (fun _ _ h => vok_cons (v := vI _) (by show InR _; unfold InR; omega) (vok_tl h)) (fun p l e Rm s m args below meth c Hm locs cells slots lsM Z _ _ _ _ hC hx hb hF kk => ?_) k
  rw [List.map_cons, show j + 7 = (j + 6) + 1 by omega, mv_lit (cx_old hC) (show j + 6 < 14 by omega) (by omega)]
  exact va_tlen hx hb ((cx_old hC).1.1 j hj).2.2.2 hF.2.2 rfl hd kk
theorem e_ifnonnullO {j : Nat} {off : Int} {tgt : Nat} (hj : j < 6) (hd : decode (mC μ) pc = .ok (.ifnonnull off, 3)) (ht : (pc : Int) + off = (tgt : Int)) (k : E G μ tgt ls st S I R Q) : E G μ pc ls (vO (j + 1) :: st) S I R Q := by
  refine e_go (fun _ _ h => vok_tl h) (fun p l e Rm s m args below meth c Hm locs cells slots lsM Z _ _ _ o4 hC hx hb hF kk => ?_) k
  rw [List.map_cons, mv_lit (cx_old hC) (show j < 14 by omega) (by omega)]
  exact lv_ifnonnull hx hb hd ht kk
theorem rvo_ne (G : Gl) {a b : Nat} : rvo G a = rvo G b ↔ a = b := by
  cases a <;> cases b <;> simp [rvo]
theorem e_acmp_ne {a b : Nat} {off : Int} {tgt : Nat} (hd : decode (mC μ) pc = .ok (.if_acmp .ne off, 3)) (ht : (pc : Int) + off = (tgt : Int)) (kt : a ≠ b → E G μ tgt ls st S I R Q) (kf : a = b → E G μ (pc + 3) ls st S I R Q) : E G μ pc ls (vR b :: vR a :: st) S I R Q := by
  by_cases h : a = b
  · refine e_go (fun _ _ o => vok_tl (vok_tl o)) (fun p l e Rm s m args below meth c Hm locs cells slots lsM Z _ _ _ o4 hC hx hb hF kk => ?_) (kf h)
    rw [List.map_cons, List.map_cons, ← rvo_rf, ← rvo_rf]
    exact lv_acmp_ne hx hb hd ht (fun q => absurd ((rvo_ne G).mpr h) q) (fun _ => kk)
  · refine e_go (fun _ _ o => vok_tl (vok_tl o)) (fun p l e Rm s m args below meth c Hm locs cells slots lsM Z _ _ _ o4 hC hx hb hF kk => ?_) (kt h)
    rw [List.map_cons, List.map_cons, ← rvo_rf, ← rvo_rf]
    exact lv_acmp_ne hx hb hd ht (fun _ => kk) (fun q => absurd q (fun q2 => h ((rvo_ne G).mp q2)))
/-- a cell of ours that is a text -/
theorem recv_ci {p : Program} {Rm : Room} {s : State} {m : MethodId} {args : Array Value} {meth : Method} {c : Code} {Hm : Heap} {r ci : Nat} (o1 : okS S) (hC : Cx G μ p Rm s m args meth c) (hM : MRel G S I R Hm) (hci : ci < 11) (ht : sT S r = ci + 1) : ∃ cell : Cell, Hm[gB G + (r - 1)]? = some cell ∧ cell.vm.isStatics = false ∧ s.vm.findClass (clC ci) = some cell.cls := by
  obtain ⟨h1, h2⟩ := tag_in o1 ht
  have hwr := wsOf_get G I R h1 h2
  rw [ht, cellE_cls G hci] at hwr
  exact va_recv hC.2.2.2.2.2.2.2.2.1 hM.1 (clOK_all ci hci).1 hwr
theorem cls_at {p : Program} {Rm : Room} {s : State} {m : MethodId} {args : Array Value} {meth : Method} {c : Code} {ci : Nat} (hC : Cx G μ p Rm s m args meth c) (hci : ci < 11) : ClassAt s (clC ci) ((gD G).1 ci) := (hC.2.2.2.2.2.2.2.2.1.1 ci _ (clOK_all ci hci).1).2
theorem e_instS {r : Nat} (hd : decode (mC μ) pc = .ok (.instanceof idx, 3)) (hw : Cond.classLink (mO μ) idx RJ0 ∈ lw_t2) (ht : sT S r = 10) (k : E G μ (pc + 3) ls (vI 1 :: st) S I R Q) : E G μ pc ls (vR r :: st) S I R Q := by
  refine e_go (fun _ _ h => vok_cons (v := vI 1) (by show InR 1; unfold InR; omega) (vok_tl h)) (fun p l e Rm s m args below meth c Hm locs cells slots lsM Z o1 _ _ _ hC hx hb hF kk => ?_) k
  have h1 := (tag_in o1 (show sT S r = 9 + 1 from ht)).1
  rw [List.map_cons, mv_ref G h1]
  exact va_instS hx hb hC.2.2.2.1 (hC.2.2.2.2.1 _ hw) (cls_at (ci := 9) hC (by omega)) (recv_ci o1 hC hF.2.1 (by omega) ht) hd kk
theorem e_castS {r : Nat} (hd : decode (mC μ) pc = .ok (.checkcast idx, 3)) (hw : Cond.classLink (mO μ) idx RJ0 ∈ lw_t2) (ht : sT S r = 10) (k : E G μ (pc + 3) ls (vR r :: st) S I R Q) : E G μ pc ls (vR r :: st) S I R Q := by
  refine e_go (fun _ _ h => h) (fun p l e Rm s m args below meth c Hm locs cells slots lsM Z o1 _ _ _ hC hx hb hF kk => ?_) k
  have h1 := (tag_in o1 (show sT S r = 9 + 1 from ht)).1
  rw [List.map_cons, mv_ref G h1] at kk ⊢
  exact va_castS hx hb hC.2.2.2.1 (hC.2.2.2.2.1 _ hw) (cls_at (ci := 9) hC (by omega)) (recv_ci o1 hC hF.2.1 (by omega) ht) hd kk
/-- a method of String at a constant of text -/
theorem e_invVL {j : Nat} {as : List PV} (hj : j < 6) (hd : decode (mC μ) pc = .ok (.invokevirtual idx, 3)) (hok : mOK μ' n) (hw : Cond.methodLink (mO μ) idx (mY μ') ∈ lw_t2 ∧ Cond.instanceMethod (mY μ') ∈ lw_t2 ∧ Cond.selects (mY μ').cls (mY μ') (mY μ') ∈ lw_t2) (hk : mK μ' < mK μ ∧ mL μ' + mW μ' + 19 ≤ mW μ) (hlen : ((vO (j + 1) :: as).map pcat).sum ≤ mL μ') (hn : as.length = n) (hst : (st.map pcat).sum ≤ 8)
    (hci : "java/lang/String" = (mY μ').cls)
    (k : E G μ' 0 (lsArgs 0 (vO (j + 1) :: as)) [] S I R Q') (kk : ∀ S' I' R' v, Q' S' I' R' v → E G μ (pc + 3) ls (retl v ++ st) S' I' R' Q) : E G μ pc ls ((vO (j + 1) :: as).reverse ++ st) S I R Q := by
  refine e_callC hok hk hlen ?_ k kk
  intro p l e Rm s m args below meth c Hm locs cells slots lsM mc ms Qc o1 hC hM hsz hMet hR hf hp
  have hts := hC.2.2.2.2.1
  have hrecv : ∃ cell : Cell, Hm[gA G (j + 1)]? = some cell ∧ cell.vm.isStatics = false ∧ s.vm.findClass (mY μ').cls = some cell.cls := by
    obtain ⟨U, hU, hW⟩ : ∃ U : State, U.heap = Hm ∧ s.WarmedH U.vm := ⟨{ s with heap := Hm }, rfl, State.WarmedH.refl s⟩
    obtain ⟨cell, q1, q2, q3, -⟩ := ((hp.2 U hU hW).2.2.2.2.2.2.1.1 j hj).1
    rw [hU] at q1
    refine ⟨cell, q1, q2, ?_⟩
    have h9 := Vm.Alike.findClass hW.alike "java/lang/String"
    rw [← hci]
    exact (h9 none).symm.trans q3
  have hgood : GoodIn lw_t2 (wsV (mO μ) idx (mY μ').cls (mY μ') (wsM μ')) := fun w hw' => by
    unfold wsV at hw'
    rcases List.mem_append.mp hw' with h | h
    · simp only [List.mem_cons, List.not_mem_nil, or_false] at h
      rcases h with rfl | rfl | rfl | rfl
      · exact good_in hw.1
      · exact good_in hw.2.1
      · exact good_in hw.2.2
      · exact good_in hok.2.2.2.2.2
    · exact good_ws hok w h
  have hcw : CallW Rm s args (mO μ) (mY μ').cls idx (mY μ') (mC μ') (mL μ') (mR μ') (wsM μ') (rmM μ' mc ms) mc ms n := cwV n hts hgood rfl rfl rfl ⟨rfl, hok.2.2.2.1⟩ hR
  have hmv : mv G (vO (j + 1)) = .ref (gA G (j + 1)) := mv_lit (cx_old hC) (by omega) (by omega)
  have hrun := va_runV (l := l) (e := e) (below := below) (meth := meth) (locs := locs) (cells := cells) (slots := slots) (As := as.map (mv G)) (rest := st.map (mv G)) (b := gA G (j + 1)) (g := F0 m pc lsM ((as.map (mv G)).reverse ++ .ref (gA G (j + 1)) :: st.map (mv G))) ⟨hC.1, hC.2.1, hC.2.2.1, hC.2.2.2.1, hts⟩ hMet hcw ⟨hp.1, hrecv, fun U hU hW => by
    have := hp.2 U hU hW
    rw [List.map_cons, hmv] at this
    exact this⟩ rfl (by rw [List.length_map]; exact hn) hsz rfl (lv_room (by have := cat_sum G hst; omega)) hd hf
  rw [show ((vO (j + 1) :: as).reverse ++ st).map (mv G) = (as.map (mv G)).reverse ++ .ref (gA G (j + 1)) :: st.map (mv G) by simp [← hmv], show ((vO (j + 1) :: as).map (mv G)).toArray = (Value.ref (gA G (j + 1)) :: as.map (mv G)).toArray by rw [List.map_cons, hmv]]
  exact hrun
/-- a method that StringBuilder has of the class above it -/
theorem e_invVU {r : Nat} {as : List PV} (hd : decode (mC μ) pc = .ok (.invokevirtual idx, 3)) (hok : mOK μ' n) (hcl : (mY μ').cls = RJ5) (hw : Cond.methodLink (mO μ) idx (mY μ') ∈ lw_t2 ∧ Cond.instanceMethod (mY μ') ∈ lw_t2 ∧ Cond.selects RJ4 (mY μ') (mY μ') ∈ lw_t2 ∧ Cond.sameMethod (mY μ').cls RJ5 (mY μ').name (mY μ').desc ∈ lw_t2) (hk : mK μ' < mK μ ∧ mL μ' + mW μ' + 19 ≤ mW μ) (hlen : ((vR r :: as).map pcat).sum ≤ mL μ') (hn : as.length = n) (hst : (st.map pcat).sum ≤ 8)
    (ht : sT S r = 11)
    (k : E G μ' 0 (lsArgs 0 (vR r :: as)) [] S I R Q') (kk : ∀ S' I' R' v, Q' S' I' R' v → E G μ (pc + 3) ls (retl v ++ st) S' I' R' Q) : E G μ pc ls ((vR r :: as).reverse ++ st) S I R Q := by
  refine e_callC hok hk hlen ?_ k kk
  intro p l e Rm s m args below meth c Hm locs cells slots lsM mc ms Qc o1 hC hM hsz hMet hR hf hp
  have h1 := (tag_in o1 (show sT S r = 10 + 1 from ht)).1
  have hts := hC.2.2.2.2.1
  have hrecv : ∃ cell : Cell, Hm[gB G + (r - 1)]? = some cell ∧ cell.vm.isStatics = false ∧ s.vm.findClass RJ4 = some cell.cls := recv_ci (ci := 10) o1 hC hM (by omega) ht
  have hyx : mY μ' = ⟨RJ5, (mY μ').name, (mY μ').desc⟩ := by rw [← hcl]
  have hgood : GoodIn lw_t2 (va_wsU (mO μ) idx RJ4 RJ5 (mY μ') (mY μ') (wsM μ')) := fun w hw' => by
    unfold va_wsU at hw'
    rcases List.mem_append.mp hw' with h | h
    · simp only [List.mem_cons, List.not_mem_nil, or_false] at h
      rcases h with rfl | rfl | rfl | rfl | rfl
      · exact good_in hw.1
      · exact good_in hw.2.2.2
      · exact good_in hw.2.2.1
      · exact good_in hw.2.1
      · exact good_in hok.2.2.2.2.2
    · exact good_ws hok w h
  have hd2 := hok.2.2.2.1
  rw [hcl] at hd2
  have hcw := va_cwU (s := s) (R := Rm) (args := args) (rm := rmM μ' mc ms) (mc := mc) (ms := ms) n hts hgood rfl rfl rfl hyx hd2 hR
  have hmv : mv G (vR r) = .ref (gB G + (r - 1)) := mv_ref G h1
  have hrun := va_runU (l := l) (e := e) (below := below) (meth := meth) (locs := locs) (cells := cells) (slots := slots) (As := as.map (mv G)) (rest := st.map (mv G)) (b := gB G + (r - 1)) (g := F0 m pc lsM ((as.map (mv G)).reverse ++ .ref (gB G + (r - 1)) :: st.map (mv G))) (Ts := lw_t2) ⟨hC.1, hC.2.1, hC.2.2.1, hC.2.2.2.1, hts⟩ hMet hcw ⟨hp.1, hrecv, fun U hU hW => by
    have := hp.2 U hU hW
    rw [List.map_cons, hmv] at this
    exact this⟩ rfl (by rw [List.length_map]; exact hn) hsz rfl (lv_room (by have := cat_sum G hst; omega)) hd hf
  rw [show ((vR r :: as).reverse ++ st).map (mv G) = (as.map (mv G)).reverse ++ .ref (gB G + (r - 1)) :: st.map (mv G) by simp [← hmv], show ((vR r :: as).map (mv G)).toArray = (Value.ref (gB G + (r - 1)) :: as.map (mv G)).toArray by rw [List.map_cons, hmv]]
  exact hrun
/-- StringBuilder's own method, where the call names the one above it -/
theorem e_invVO {r : Nat} {as : List PV} {x : MethodName} {b0 : ByteArray} {m0 : Nat} {r0 : Option FieldType} (hd : decode (mC μ) pc = .ok (.invokevirtual idx, 3)) (hok : mOK μ' n) (hx : x.cls = RJ5 ∧ (parseMethodDescriptor x.desc).map (fun d => d.parameters.length) = some n) (hw : Cond.methodLink (mO μ) idx x ∈ lw_t2 ∧ Cond.instanceMethod (mY μ') ∈ lw_t2 ∧ Cond.selects RJ4 x (mY μ') ∈ lw_t2 ∧ Cond.sameMethod x.cls RJ5 x.name x.desc ∈ lw_t2 ∧ Cond.instanceMethod x ∈ lw_t2 ∧ Cond.code x b0 m0 r0 ∈ lw_t2) (hk : mK μ' < mK μ ∧ mL μ' + mW μ' + 19 ≤ mW μ) (hlen : ((vR r :: as).map pcat).sum ≤ mL μ') (hn : as.length = n) (hst : (st.map pcat).sum ≤ 8)
    (ht : sT S r = 11)
    (k : E G μ' 0 (lsArgs 0 (vR r :: as)) [] S I R Q') (kk : ∀ S' I' R' v, Q' S' I' R' v → E G μ (pc + 3) ls (retl v ++ st) S' I' R' Q) : E G μ pc ls ((vR r :: as).reverse ++ st) S I R Q := by
  refine e_callC hok hk hlen ?_ k kk
  intro p l e Rm s m args below meth c Hm locs cells slots lsM mc ms Qc o1 hC hM hsz hMet hR hf hp
  have h1 := (tag_in o1 (show sT S r = 10 + 1 from ht)).1
  have hts := hC.2.2.2.2.1
  have hrecv : ∃ cell : Cell, Hm[gB G + (r - 1)]? = some cell ∧ cell.vm.isStatics = false ∧ s.vm.findClass RJ4 = some cell.cls := recv_ci (ci := 10) o1 hC hM (by omega) ht
  have hyx : x = ⟨RJ5, x.name, x.desc⟩ := by rw [← hx.1]
  have hgood : GoodIn lw_t2 (va_wsO (mO μ) idx RJ4 RJ5 x (mY μ') (wsM μ')) := fun w hw' => by
    unfold va_wsO at hw'
    rcases List.mem_append.mp hw' with h | h
    · simp only [List.mem_cons, List.not_mem_nil, or_false] at h
      rcases h with rfl | rfl | rfl | rfl | rfl | rfl
      · exact good_in hw.1
      · exact good_in hw.2.2.2.1
      · rw [← hyx]; exact good_in hw.2.2.2.2.1
      · exact good_in hw.2.2.1
      · exact good_in hw.2.1
      · exact good_in hok.2.2.2.2.2
    · exact good_ws hok w h
  have hcw := va_cwO (s := s) (R := Rm) (args := args) (rm := rmM μ' mc ms) (mc := mc) (ms := ms) n hts hgood rfl rfl rfl (b0 := b0) (m0 := m0) (r0 := r0) (by rw [← hyx]; exact hw.2.2.2.2.2) ⟨by decide, by decide, hx.2⟩ hR
  have hmv : mv G (vR r) = .ref (gB G + (r - 1)) := mv_ref G h1
  have hrun := va_runU (l := l) (e := e) (below := below) (meth := meth) (locs := locs) (cells := cells) (slots := slots) (As := as.map (mv G)) (rest := st.map (mv G)) (b := gB G + (r - 1)) (g := F0 m pc lsM ((as.map (mv G)).reverse ++ .ref (gB G + (r - 1)) :: st.map (mv G))) (Ts := lw_t2) ⟨hC.1, hC.2.1, hC.2.2.1, hC.2.2.2.1, hts⟩ hMet hcw ⟨hp.1, hrecv, fun U hU hW => by
    have := hp.2 U hU hW
    rw [List.map_cons, hmv] at this
    exact this⟩ rfl (by rw [List.length_map]; exact hn) hsz rfl (lv_room (by have := cat_sum G hst; omega)) hd hf
  rw [show ((vR r :: as).reverse ++ st).map (mv G) = (as.map (mv G)).reverse ++ .ref (gB G + (r - 1)) :: st.map (mv G) by simp [← hmv], show ((vR r :: as).map (mv G)).toArray = (Value.ref (gB G + (r - 1)) :: as.map (mv G)).toArray by rw [List.map_cons, hmv]]
  exact hrun
/-- super.method: StringBuilder's calls of the class above it -/
theorem e_invSU {r : Nat} {as : List PV} (hd : decode (mC μ) pc = .ok (.invokespecial idx, 3)) (hok : mOK μ' n) (hin : (mY μ').name ≠ "<init>") (hw : Cond.methodLink (mO μ) idx (mY μ') ∈ lw_t2 ∧ Cond.instanceMethod (mY μ') ∈ lw_t2 ∧ Cond.superclass (mO μ) (mY μ').cls ∈ lw_t2 ∧ Cond.sameMethod (mY μ').cls (mY μ').cls (mY μ').name (mY μ').desc ∈ lw_t2) (hk : mK μ' < mK μ ∧ mL μ' + mW μ' + 19 ≤ mW μ) (hlen : ((vR r :: as).map pcat).sum ≤ mL μ') (hn : as.length = n) (hst : (st.map pcat).sum ≤ 8)
    (hO : mO μ = RJ4) (ht : sT S r = 11)
    (k : E G μ' 0 (lsArgs 0 (vR r :: as)) [] S I R Q') (kk : ∀ S' I' R' v, Q' S' I' R' v → E G μ (pc + 3) ls (retl v ++ st) S' I' R' Q) : E G μ pc ls ((vR r :: as).reverse ++ st) S I R Q := by
  refine e_callC hok hk hlen ?_ k kk
  intro p l e Rm s m args below meth c Hm locs cells slots lsM mc ms Qc o1 hC hM hsz hMet hR hf hp
  have h1 := (tag_in o1 (show sT S r = 10 + 1 from ht)).1
  have hts := hC.2.2.2.2.1
  have hrecv : ∃ cell : Cell, Hm[gB G + (r - 1)]? = some cell ∧ cell.vm.isStatics = false ∧ s.vm.findClass RJ4 = some cell.cls := recv_ci (ci := 10) o1 hC hM (by omega) ht
  have hgood : GoodIn lw_t2 (va_wsSU (mO μ) idx (mY μ') (wsM μ')) := fun w hw' => by
    unfold va_wsSU at hw'
    rcases List.mem_append.mp hw' with h | h
    · simp only [List.mem_cons, List.not_mem_nil, or_false] at h
      rcases h with rfl | rfl | rfl | rfl | rfl
      · exact good_in hw.1
      · exact good_in hw.2.2.2
      · exact good_in hw.2.2.1
      · exact good_in hw.2.1
      · exact good_in hok.2.2.2.2.2
    · exact good_ws hok w h
  have hcw := va_cwSU (s := s) (R := Rm) (args := args) (rm := rmM μ' mc ms) (mc := mc) (ms := ms) n hts hgood rfl rfl rfl ⟨hin, hok.2.2.2.1.2.2⟩ hR
  have hmv : mv G (vR r) = .ref (gB G + (r - 1)) := mv_ref G h1
  have hrun := va_runSU (l := l) (e := e) (below := below) (meth := meth) (locs := locs) (cells := cells) (slots := slots) (As := as.map (mv G)) (rest := st.map (mv G)) (b := gB G + (r - 1)) (g := F0 m pc lsM ((as.map (mv G)).reverse ++ .ref (gB G + (r - 1)) :: st.map (mv G))) (cls_at (ci := 10) hC (by omega)) ⟨hC.1, hC.2.1, hC.2.2.1, hC.2.2.2.1, hts⟩ hMet hcw ⟨hp.1, hrecv, fun U hU hW => by
    have := hp.2 U hU hW
    rw [List.map_cons, hmv] at this
    exact this⟩ rfl (by rw [List.length_map]; exact hn) hsz rfl (lv_room (by have := cat_sum G hst; omega)) hd hf
  rw [show ((vR r :: as).reverse ++ st).map (mv G) = (as.map (mv G)).reverse ++ .ref (gB G + (r - 1)) :: st.map (mv G) by simp [← hmv], show ((vR r :: as).map (mv G)).toArray = (Value.ref (gB G + (r - 1)) :: as.map (mv G)).toArray by rw [List.map_cons, hmv]]
  exact hrun
end TX
section WT
variable {G : Gl} {μ μ' : MB} {pc : Nat} {ls : Lc} {st stk as : List PV} {S : Sh} {I : MI} {R : MR} {Q : PQ} {idx ci n r j : Nat} {host : String}
theorem i_VLI (hs : (vO (j + 1) :: as).reverse ++ st = stk) (hj : j < 6) (hd : decode (mC μ) pc = .ok (.invokevirtual idx, 3)) (hok : mOK μ' n) (hw : Cond.methodLink (mO μ) idx (mY μ') ∈ lw_t2 ∧ Cond.instanceMethod (mY μ') ∈ lw_t2 ∧ Cond.selects (mY μ').cls (mY μ') (mY μ') ∈ lw_t2) (hk : mK μ' < mK μ ∧ mL μ' + mW μ' + 19 ≤ mW μ) (hlen : ((vO (j + 1) :: as).map pcat).sum ≤ mL μ') (hn : as.length = n) (hst : (st.map pcat).sum ≤ 8) (hci : "java/lang/String" = (mY μ').cls)
    (k : CI G μ' (vO (j + 1) :: as) S I R (fun S' I' R' x => E G μ (pc + 3) ls (vI x :: st) S' I' R' Q)) : E G μ pc ls stk S I R Q := by
  subst hs
  exact e_invVL hj hd hok hw hk hlen hn hst hci k (fun S' I' R' v ⟨x, hv, hx⟩ => by subst hv; exact hx)
theorem i_VUI (hs : (vR r :: as).reverse ++ st = stk) (hd : decode (mC μ) pc = .ok (.invokevirtual idx, 3)) (hok : mOK μ' n) (hcl : (mY μ').cls = RJ5) (hw : Cond.methodLink (mO μ) idx (mY μ') ∈ lw_t2 ∧ Cond.instanceMethod (mY μ') ∈ lw_t2 ∧ Cond.selects RJ4 (mY μ') (mY μ') ∈ lw_t2 ∧ Cond.sameMethod (mY μ').cls RJ5 (mY μ').name (mY μ').desc ∈ lw_t2) (hk : mK μ' < mK μ ∧ mL μ' + mW μ' + 19 ≤ mW μ) (hlen : ((vR r :: as).map pcat).sum ≤ mL μ') (hn : as.length = n) (hst : (st.map pcat).sum ≤ 8) (ht : sT S r = 11)
    (k : CI G μ' (vR r :: as) S I R (fun S' I' R' x => E G μ (pc + 3) ls (vI x :: st) S' I' R' Q)) : E G μ pc ls stk S I R Q := by
  subst hs
  exact e_invVU hd hok hcl hw hk hlen hn hst ht k (fun S' I' R' v ⟨x, hv, hx⟩ => by subst hv; exact hx)
theorem i_SUI (hs : (vR r :: as).reverse ++ st = stk) (hd : decode (mC μ) pc = .ok (.invokespecial idx, 3)) (hok : mOK μ' n) (hin : (mY μ').name ≠ "<init>") (hw : Cond.methodLink (mO μ) idx (mY μ') ∈ lw_t2 ∧ Cond.instanceMethod (mY μ') ∈ lw_t2 ∧ Cond.superclass (mO μ) (mY μ').cls ∈ lw_t2 ∧ Cond.sameMethod (mY μ').cls (mY μ').cls (mY μ').name (mY μ').desc ∈ lw_t2) (hk : mK μ' < mK μ ∧ mL μ' + mW μ' + 19 ≤ mW μ) (hlen : ((vR r :: as).map pcat).sum ≤ mL μ') (hn : as.length = n) (hst : (st.map pcat).sum ≤ 8) (hO : mO μ = RJ4) (ht : sT S r = 11)
    (k : CI G μ' (vR r :: as) S I R (fun S' I' R' x => E G μ (pc + 3) ls (vI x :: st) S' I' R' Q)) : E G μ pc ls stk S I R Q := by
  subst hs
  exact e_invSU hd hok hin hw hk hlen hn hst hO ht k (fun S' I' R' v ⟨x, hv, hx⟩ => by subst hv; exact hx)
theorem i_VLR (hs : (vO (j + 1) :: as).reverse ++ st = stk) (hj : j < 6) (hd : decode (mC μ) pc = .ok (.invokevirtual idx, 3)) (hok : mOK μ' n) (hw : Cond.methodLink (mO μ) idx (mY μ') ∈ lw_t2 ∧ Cond.instanceMethod (mY μ') ∈ lw_t2 ∧ Cond.selects (mY μ').cls (mY μ') (mY μ') ∈ lw_t2) (hk : mK μ' < mK μ ∧ mL μ' + mW μ' + 19 ≤ mW μ) (hlen : ((vO (j + 1) :: as).map pcat).sum ≤ mL μ') (hn : as.length = n) (hst : (st.map pcat).sum ≤ 8) (hci : "java/lang/String" = (mY μ').cls)
    (k : CR G μ' (vO (j + 1) :: as) S I R (fun S' I' R' x => E G μ (pc + 3) ls (vR x :: st) S' I' R' Q)) : E G μ pc ls stk S I R Q := by
  subst hs
  exact e_invVL hj hd hok hw hk hlen hn hst hci k (fun S' I' R' v ⟨x, hv, hx⟩ => by subst hv; exact hx)
theorem i_VUR (hs : (vR r :: as).reverse ++ st = stk) (hd : decode (mC μ) pc = .ok (.invokevirtual idx, 3)) (hok : mOK μ' n) (hcl : (mY μ').cls = RJ5) (hw : Cond.methodLink (mO μ) idx (mY μ') ∈ lw_t2 ∧ Cond.instanceMethod (mY μ') ∈ lw_t2 ∧ Cond.selects RJ4 (mY μ') (mY μ') ∈ lw_t2 ∧ Cond.sameMethod (mY μ').cls RJ5 (mY μ').name (mY μ').desc ∈ lw_t2) (hk : mK μ' < mK μ ∧ mL μ' + mW μ' + 19 ≤ mW μ) (hlen : ((vR r :: as).map pcat).sum ≤ mL μ') (hn : as.length = n) (hst : (st.map pcat).sum ≤ 8) (ht : sT S r = 11)
    (k : CR G μ' (vR r :: as) S I R (fun S' I' R' x => E G μ (pc + 3) ls (vR x :: st) S' I' R' Q)) : E G μ pc ls stk S I R Q := by
  subst hs
  exact e_invVU hd hok hcl hw hk hlen hn hst ht k (fun S' I' R' v ⟨x, hv, hx⟩ => by subst hv; exact hx)
theorem i_SUR (hs : (vR r :: as).reverse ++ st = stk) (hd : decode (mC μ) pc = .ok (.invokespecial idx, 3)) (hok : mOK μ' n) (hin : (mY μ').name ≠ "<init>") (hw : Cond.methodLink (mO μ) idx (mY μ') ∈ lw_t2 ∧ Cond.instanceMethod (mY μ') ∈ lw_t2 ∧ Cond.superclass (mO μ) (mY μ').cls ∈ lw_t2 ∧ Cond.sameMethod (mY μ').cls (mY μ').cls (mY μ').name (mY μ').desc ∈ lw_t2) (hk : mK μ' < mK μ ∧ mL μ' + mW μ' + 19 ≤ mW μ) (hlen : ((vR r :: as).map pcat).sum ≤ mL μ') (hn : as.length = n) (hst : (st.map pcat).sum ≤ 8) (hO : mO μ = RJ4) (ht : sT S r = 11)
    (k : CR G μ' (vR r :: as) S I R (fun S' I' R' x => E G μ (pc + 3) ls (vR x :: st) S' I' R' Q)) : E G μ pc ls stk S I R Q := by
  subst hs
  exact e_invSU hd hok hin hw hk hlen hn hst hO ht k (fun S' I' R' v ⟨x, hv, hx⟩ => by subst hv; exact hx)
theorem i_VLV (hs : (vO (j + 1) :: as).reverse ++ st = stk) (hj : j < 6) (hd : decode (mC μ) pc = .ok (.invokevirtual idx, 3)) (hok : mOK μ' n) (hw : Cond.methodLink (mO μ) idx (mY μ') ∈ lw_t2 ∧ Cond.instanceMethod (mY μ') ∈ lw_t2 ∧ Cond.selects (mY μ').cls (mY μ') (mY μ') ∈ lw_t2) (hk : mK μ' < mK μ ∧ mL μ' + mW μ' + 19 ≤ mW μ) (hlen : ((vO (j + 1) :: as).map pcat).sum ≤ mL μ') (hn : as.length = n) (hst : (st.map pcat).sum ≤ 8) (hci : "java/lang/String" = (mY μ').cls)
    (k : CV G μ' (vO (j + 1) :: as) S I R (fun S' I' R'  => E G μ (pc + 3) ls st S' I' R' Q)) : E G μ pc ls stk S I R Q := by
  subst hs
  exact e_invVL hj hd hok hw hk hlen hn hst hci k (fun S' I' R' v ⟨hv, hx⟩ => by subst hv; exact hx)
theorem i_VUV (hs : (vR r :: as).reverse ++ st = stk) (hd : decode (mC μ) pc = .ok (.invokevirtual idx, 3)) (hok : mOK μ' n) (hcl : (mY μ').cls = RJ5) (hw : Cond.methodLink (mO μ) idx (mY μ') ∈ lw_t2 ∧ Cond.instanceMethod (mY μ') ∈ lw_t2 ∧ Cond.selects RJ4 (mY μ') (mY μ') ∈ lw_t2 ∧ Cond.sameMethod (mY μ').cls RJ5 (mY μ').name (mY μ').desc ∈ lw_t2) (hk : mK μ' < mK μ ∧ mL μ' + mW μ' + 19 ≤ mW μ) (hlen : ((vR r :: as).map pcat).sum ≤ mL μ') (hn : as.length = n) (hst : (st.map pcat).sum ≤ 8) (ht : sT S r = 11)
    (k : CV G μ' (vR r :: as) S I R (fun S' I' R'  => E G μ (pc + 3) ls st S' I' R' Q)) : E G μ pc ls stk S I R Q := by
  subst hs
  exact e_invVU hd hok hcl hw hk hlen hn hst ht k (fun S' I' R' v ⟨hv, hx⟩ => by subst hv; exact hx)
theorem i_SUV (hs : (vR r :: as).reverse ++ st = stk) (hd : decode (mC μ) pc = .ok (.invokespecial idx, 3)) (hok : mOK μ' n) (hin : (mY μ').name ≠ "<init>") (hw : Cond.methodLink (mO μ) idx (mY μ') ∈ lw_t2 ∧ Cond.instanceMethod (mY μ') ∈ lw_t2 ∧ Cond.superclass (mO μ) (mY μ').cls ∈ lw_t2 ∧ Cond.sameMethod (mY μ').cls (mY μ').cls (mY μ').name (mY μ').desc ∈ lw_t2) (hk : mK μ' < mK μ ∧ mL μ' + mW μ' + 19 ≤ mW μ) (hlen : ((vR r :: as).map pcat).sum ≤ mL μ') (hn : as.length = n) (hst : (st.map pcat).sum ≤ 8) (hO : mO μ = RJ4) (ht : sT S r = 11)
    (k : CV G μ' (vR r :: as) S I R (fun S' I' R'  => E G μ (pc + 3) ls st S' I' R' Q)) : E G μ pc ls stk S I R Q := by
  subst hs
  exact e_invSU hd hok hin hw hk hlen hn hst hO ht k (fun S' I' R' v ⟨hv, hx⟩ => by subst hv; exact hx)
theorem i_VOI {x0 : MethodName} {b0 : ByteArray} {m0 : Nat} {r0 : Option FieldType} (hs : (vR r :: as).reverse ++ st = stk) (hd : decode (mC μ) pc = .ok (.invokevirtual idx, 3)) (hok : mOK μ' n) (hx0 : x0.cls = RJ5 ∧ (parseMethodDescriptor x0.desc).map (fun d => d.parameters.length) = some n) (hw : Cond.methodLink (mO μ) idx x0 ∈ lw_t2 ∧ Cond.instanceMethod (mY μ') ∈ lw_t2 ∧ Cond.selects RJ4 x0 (mY μ') ∈ lw_t2 ∧ Cond.sameMethod x0.cls RJ5 x0.name x0.desc ∈ lw_t2 ∧ Cond.instanceMethod x0 ∈ lw_t2 ∧ Cond.code x0 b0 m0 r0 ∈ lw_t2) (hk : mK μ' < mK μ ∧ mL μ' + mW μ' + 19 ≤ mW μ) (hlen : ((vR r :: as).map pcat).sum ≤ mL μ') (hn : as.length = n) (hst : (st.map pcat).sum ≤ 8) (ht : sT S r = 11)
    (k : CI G μ' (vR r :: as) S I R (fun S' I' R' x => E G μ (pc + 3) ls (vI x :: st) S' I' R' Q)) : E G μ pc ls stk S I R Q := by
  subst hs
  exact e_invVO hd hok hx0 hw hk hlen hn hst ht k (fun S' I' R' v ⟨x, hv, hx⟩ => by subst hv; exact hx)
end WT
