/-! ===== THE WALK: calls ===== -/
def retl : PV → List PV
  | .inr (.inr 0) => []
  | v => [v]
theorem retl_map (G : Gl) (v : PV) (st : List PV) : (retv G v).toList ++ st.map (mv G) = (retl v ++ st).map (mv G) := by
  match v with
  | .inl (.inl _) => rfl
  | .inl (.inr _) => rfl
  | .inr (.inr 0) => rfl
  | .inr (.inr (_ + 1)) => rfl
  | .inr (.inl 0) => rfl
  | .inr (.inl (_ + 1)) => rfl
theorem okV_retl {v : PV} {st : List PV} (h : vok v) (hs : okV st) : okV (retl v ++ st) := by
  match v, h with
  | .inl (.inl x), h => exact vok_cons (v := vI x) h hs
  | .inl (.inr x), h => exact vok_cons (v := vL x) h hs
  | .inr (.inr 0), _ => exact hs
  | .inr (.inl r), h => exact vok_cons (v := vR r) h hs
  | .inr (.inr (k + 1)), h => exact vok_cons (v := vO (k + 1)) h hs
theorem ExA.same {u U : State} (h : u.vm = U.vm) (hE : ExA u) : ExA U := by
  have hal : u.vm.Alike U.vm := by rw [h]; exact Vm.Alike.refl _
  refine ⟨fun w hw => ?_, hE.2.1.moved hal, hE.2.2.1.moved hal, hE.2.2.2.1.moved hal, hE.2.2.2.2.1.moved hal, va_Nw.same rfl h hE.2.2.2.2.2⟩
  have h1 := hE.1 w hw
  have h2 := (List.mem_filter.mp hw).2
  cases w with
  | methodLinkNest a i x hh => exact va_Nw.same rfl h h1
  | _ => cases h2
theorem ExW.same {G : Gl} {u U : State} {H : Heap} (h : u.vm = U.vm) (hE : ExW G u H) : ExW G U H := ⟨ExA.same h hE.1, va_Old.same h hE.2⟩
theorem pcM_blind (G : Gl) (as : List PV) (S : Sh) (I : MI) (R : MR) : FrameBlind (pcM G as S I R) := by
  intro a U g mk h
  obtain ⟨h1, h2, h3, h4, h5, h6⟩ := h
  exact ⟨h1, h2, va_K.moved (u := U) (U := U.calling g mk a) (Vm.Alike.refl U.vm) h3, h4, va_X.moved (u := U) (U := U.calling g mk a) (Vm.Alike.refl U.vm) h5, ExW.same (u := U) (U := U.calling g mk a) rfl h6⟩
def mOK (μ : MB) (n : Nat) : Prop := Cond.code (mY μ) (mC μ) (mL μ) (mR μ) ∈ lw_t2 ∧ plainName (mY μ).cls = true ∧ mO μ = (mY μ).cls ∧ ((mY μ).cls ≠ "java/lang/invoke/MethodHandle" ∧ (mY μ).cls ≠ "java/lang/invoke/VarHandle" ∧ (parseMethodDescriptor (mY μ).desc).map (fun d => d.parameters.length) = some n) ∧ mL μ ≤ 150 ∧ Cond.initialized (mY μ).cls ∈ lw_t2
theorem good_in {w : Cond} (h : w ∈ lw_t2) : w ∈ lw_t2 ∧ ((w.onTables && w.keeps) = true ∨ ∃ ty, w = .arrayClass ty) := ⟨h, good_of_word (lw_gd h)⟩
theorem good_ws {μ : MB} {n : Nat} (h : mOK μ n) : GoodIn lw_t2 (wsM μ) := fun w hw => by
  rcases List.mem_cons.mp hw with rfl | hw
  · exact good_in h.1
  · exact lw_good w hw
section CL
variable {G : Gl} {μ μ' : MB} {pc pc2 : Nat} {ls ls2 : Lc} {st st2 as : List PV} {S S2 : Sh} {I I2 : MI} {R R2 : MR} {Q Q' : PQ} {idx ci f a n : Nat} {i x y : Int}
theorem e_callC (hok : mOK μ' n) (hk : mK μ' < mK μ ∧ mL μ' + mW μ' + 19 ≤ mW μ) (hlen : (as.map pcat).sum ≤ mL μ')
    (hrun : ∀ (p : Program) (l : Launch) (e : Env) (Rm : Room) (s : State) (m : MethodId) (args : Array Value) (below : List Frame) (meth : Method) (c : Code) (Hm : Heap) (locs : List Loc) (cells slots : Nat) (lsM : Array Slot) (mc ms : Nat) (Qc : Array Value → State → Outcome → State → Prop),
      okS S → Cx G μ p Rm s m args meth c → MRel G S I R Hm → lsM.size = mL μ → Met l (mY μ') (wsM μ') (rmM μ' mc ms) (pcM G as S I R) Qc mc ms (fun q => gB G ≤ q) → (rmM μ' mc ms).frames + 1 ≤ Rm.frames ∧ 8 + (mL μ' + 11) + (rmM μ' mc ms).locals ≤ Rm.locals → cells + mc ≤ Rm.cells ∧ slots + ms ≤ Rm.slots →
      (FrameBlind (pcM G as S I R) ∧ ∀ U : State, U.heap = Hm → s.WarmedH U.vm → pcM G as S I R (as.map (mv G)).toArray U) →
      va_Run p l e Rm s m args below meth c Hm locs cells slots mc ms (F0 m pc lsM ((as.reverse ++ st).map (mv G))) (st.map (mv G)) (Qc (as.map (mv G)).toArray) (fun q => gB G ≤ q))
    (k : E G μ' 0 (lsArgs 0 as) [] S I R Q') (kk : ∀ S' I' R' v, Q' S' I' R' v → E G μ (pc + 3) ls (retl v ++ st) S' I' R' Q) : E G μ pc ls (as.reverse ++ st) S I R Q := by
  intro o1 o2 o3 o4
  have oas : okV as := fun v hv => o4 v (List.mem_append_left _ (List.mem_reverse.mpr hv))
  have ost : okV st := fun v hv => o4 v (List.mem_append_right _ hv)
  obtain ⟨S1, I1, R1, v1, hq1, p1, p2, p3, hr1⟩ := k o1 o2 (lok_args 0 as oas) (fun _ h => by cases h)
  obtain ⟨S2, I2, R2, v2, hq2, p4, p5, p6, hr2⟩ := kk _ _ _ _ hq1 p1 p2 o3 (okV_retl p3 ost)
  have hn1 := hr1.1
  have hu1 := hr1.2.1
  have hn2 := hr2.1
  have hu2 := hr2.2.1
  refine ⟨S2, I2, R2, v2, hq2, p4, p5, p6, Nat.le_trans hn1 hn2, Nat.le_trans hu1 hu2, ?_⟩
  intro p l e Rm s m args below meth c Hm locs cells slots lsM Z hC hc hs hF kz
  have hMet := met_of (l := l) hok.2.1 hok.2.2.1 hlen ⟨hC.2.2.2.2.2.2.2.2.2.1, hC.2.2.2.2.2.2.2.2.2.2.2.2.2.1, hC.2.2.2.2.2.2.2.2.2.2.2.2.2.2.2.1⟩ hr1
  have hK := hC.2.2.2.2.2.2.2.2.1
  have hbs := hC.2.2.2.2.2.2.2.2.2.2.2.2.1
  have hbb := hC.2.2.2.2.2.2.2.2.2.2.2.2.2.1
  have hX := hC.2.2.2.2.2.2.2.2.2.2.2.2.2.2.1
  have hEx := hC.2.2.2.2.2.2.2.2.2.2.2.2.2.2.2.2
  have hfr := hC.2.2.2.2.2.2.2.2.2.2.1
  have hlo := hC.2.2.2.2.2.2.2.2.2.2.2.1
  have hbl : gb G < s.heap.size := Nat.lt_of_lt_of_le hbb hbs
  have hX' : va_X (gb G) (gL G) (gX G) s Hm := hX.kept (hF.2.2.2.1 (gb G) hbl (Nat.not_le.mpr hbb))
  have hr := hrun p l e Rm s m args below meth c Hm locs cells slots lsM (sN S1 - sN S) (sU S1 - sU S) _ o1 hC hF.2.1 hF.1.1 hMet (by
      have := hok.2.2.2.2.1
      show mK μ' + 1 ≤ Rm.frames ∧ 8 + (mL μ' + 11) + mW μ' ≤ Rm.locals
      omega) ⟨by omega, by omega⟩ ⟨pcM_blind G as S I R, fun U hU hW => ⟨rfl, by rw [hU]; exact hF.2.1, hK.moved hW.alike, by rw [hU]; exact Nat.le_trans hbs hF.2.2.1, by rw [hU]; exact hX'.moved hW.alike, by rw [hU]; exact ExW.warm hW ⟨hEx.1, hEx.2.kept (fun q g1 g2 => hF.2.2.2.1 q g1 g2)⟩⟩⟩
  intro T hT X
  obtain ⟨v, st₀, t, T', L, h0, X', hL, e1, e2, ⟨hov, hM1, hF1⟩, step⟩ := hr T hT X
  cases hov
  have hS' : va_S (fun q => gB G ≤ q) s.heap T'.heap (locs ++ L) := by
    refine ⟨Nat.le_trans hF.2.2.1 (by rw [e1, ← h0]; exact hF1.1), fun q g1 g2 => ?_, fun q hq => ?_⟩
    · rw [e1, hF1.2 q (by rw [h0]; exact Nat.lt_of_lt_of_le g1 hF.2.2.1) g2, h0]
      exact hF.2.2.2.1 q g1 g2
    · rcases List.mem_append.mp hq with h | h
      · exact hF.2.2.2.2 q h
      · exact hL q h
  obtain ⟨t2, a1, b1⟩ := hr2.2.2 p l e Rm s m args below meth c T'.heap (locs ++ L) (cells + (sN S1 - sN S)) (slots + (sU S1 - sU S)) lsM Z hC (by omega) (by omega) ⟨hF.1, by rw [e1]; exact hM1, hS'⟩ (fun Hm' locs' pc' ls' g1 g2 g3 => by
    rw [show cells + (sN S1 - sN S) + (sN S2 - sN S1) = cells + (sN S2 - sN S) by omega, show slots + (sU S1 - sU S) + (sU S2 - sU S1) = slots + (sU S2 - sU S) by omega]
    exact kz Hm' locs' pc' ls' g1 g2 g3) T' rfl X'
  refine ⟨t2, step t2 ?_, b1⟩
  rw [← retl_map] at a1
  exact a1
theorem cat_sum (G : Gl) {st : List PV} {k : Nat} (h : (st.map pcat).sum ≤ k) : ((st.map (mv G)).map fun v => v.category).sum ≤ k := by
  have : ((st.map (mv G)).map fun v => v.category).sum = (st.map pcat).sum := by rw [List.map_map]; congr 1; exact List.map_congr_left (fun v _ => mv_cat G v)
  omega
/-- an instance method, by its receiver's own class -/
theorem e_invV {r : Nat} {as : List PV} (hd : decode (mC μ) pc = .ok (.invokevirtual idx, 3)) (hok : mOK μ' n) (hw : Cond.methodLink (mO μ) idx (mY μ') ∈ lw_t2 ∧ Cond.instanceMethod (mY μ') ∈ lw_t2 ∧ Cond.selects (mY μ').cls (mY μ') (mY μ') ∈ lw_t2) (hk : mK μ' < mK μ ∧ mL μ' + mW μ' + 19 ≤ mW μ) (hlen : ((vR r :: as).map pcat).sum ≤ mL μ') (hn : as.length = n) (hst : (st.map pcat).sum ≤ 8)
    (hci : ci < 11 ∧ clC ci = (mY μ').cls) (ht : sT S r = ci + 1)
    (k : E G μ' 0 (lsArgs 0 (vR r :: as)) [] S I R Q') (kk : ∀ S' I' R' v, Q' S' I' R' v → E G μ (pc + 3) ls (retl v ++ st) S' I' R' Q) : E G μ pc ls ((vR r :: as).reverse ++ st) S I R Q := by
  refine e_callC hok hk hlen ?_ k kk
  intro p l e Rm s m args below meth c Hm locs cells slots lsM mc ms Qc o1 hC hM hsz hMet hR hf hp
  obtain ⟨h1, h2⟩ := tag_in o1 ht
  have hwr := wsOf_get G I R h1 h2
  rw [ht, cellE_cls G hci.1] at hwr
  have hts := hC.2.2.2.2.1
  have hrecv := va_recv hC.2.2.2.2.2.2.2.2.1 hM.1 (clOK_all ci hci.1).1 hwr
  rw [hci.2] at hrecv
  have hgood : GoodIn lw_t2 (wsV (mO μ) idx (mY μ').cls (mY μ') (wsM μ')) := fun w hw' => by
    unfold wsV at hw'
    rcases List.mem_append.mp hw' with h | h
    · simp only [List.mem_cons, List.not_mem_nil, or_false] at h
      rcases h with rfl | rfl | rfl | rfl
      · exact good_in hw.1
      · exact good_in hw.2.1
      · exact good_in hw.2.2
      · exact good_in hok.2.2.2.2.2
    · exact good_ws hok w h
  have hcw : CallW Rm s args (mO μ) (mY μ').cls idx (mY μ') (mC μ') (mL μ') (mR μ') (wsM μ') (rmM μ' mc ms) mc ms n := cwV n hts hgood rfl rfl rfl ⟨rfl, hok.2.2.2.1⟩ hR
  have hmv : mv G (vR r) = .ref (gB G + (r - 1)) := mv_ref G h1
  have hrun := va_runV (l := l) (e := e) (below := below) (meth := meth) (locs := locs) (cells := cells) (slots := slots) (As := as.map (mv G)) (rest := st.map (mv G)) (b := gB G + (r - 1)) (g := F0 m pc lsM ((as.map (mv G)).reverse ++ .ref (gB G + (r - 1)) :: st.map (mv G))) ⟨hC.1, hC.2.1, hC.2.2.1, hC.2.2.2.1, hts⟩ hMet hcw ⟨hp.1, hrecv, fun U hU hW => by
    have := hp.2 U hU hW
    rw [List.map_cons, hmv] at this
    exact this⟩ rfl (by rw [List.length_map]; exact hn) hsz rfl (lv_room (by have := cat_sum G hst; omega)) hd hf
  rw [show ((vR r :: as).reverse ++ st).map (mv G) = (as.map (mv G)).reverse ++ .ref (gB G + (r - 1)) :: st.map (mv G) by simp [← hmv], show ((vR r :: as).map (mv G)).toArray = (Value.ref (gB G + (r - 1)) :: as.map (mv G)).toArray by rw [List.map_cons, hmv]]
  exact hrun
theorem e_invS {as : List PV} (hd : decode (mC μ) pc = .ok (.invokestatic idx, 3)) (hok : mOK μ' n) (hw : Cond.methodLink (mO μ) idx (mY μ') ∈ lw_t2 ∧ Cond.static (mY μ') ∈ lw_t2) (hk : mK μ' < mK μ ∧ mL μ' + mW μ' + 19 ≤ mW μ) (hlen : (as.map pcat).sum ≤ mL μ') (hn : as.length = n) (hst : (st.map pcat).sum ≤ 8)
    (k : E G μ' 0 (lsArgs 0 as) [] S I R Q') (kk : ∀ S' I' R' v, Q' S' I' R' v → E G μ (pc + 3) ls (retl v ++ st) S' I' R' Q) : E G μ pc ls (as.reverse ++ st) S I R Q := by
  refine e_callC hok hk hlen ?_ k kk
  intro p l e Rm s m args below meth c Hm locs cells slots lsM mc ms Qc o1 hC hM hsz hMet hR hf hp
  have hts := hC.2.2.2.2.1
  have hgood : GoodIn lw_t2 (va_wsS (mO μ) idx (mY μ') (wsM μ')) := fun w hw' => by
    unfold va_wsS at hw'
    rcases List.mem_append.mp hw' with h | h
    · simp only [List.mem_cons, List.not_mem_nil, or_false] at h
      rcases h with rfl | rfl | rfl
      · exact good_in hw.1
      · exact good_in hw.2
      · exact good_in hok.2.2.2.2.2
    · exact good_ws hok w h
  have hcw := va_cwS (R := Rm) (args := args) (rm := rmM μ' mc ms) (mc := mc) (ms := ms) n hts hgood rfl rfl rfl hok.2.2.2.1 hR
  have hrun := va_runS (l := l) (e := e) (below := below) (meth := meth) (locs := locs) (cells := cells) (slots := slots) (As := as.map (mv G)) (rest := st.map (mv G)) (g := F0 m pc lsM ((as.map (mv G)).reverse ++ st.map (mv G))) ⟨hC.1, hC.2.1, hC.2.2.1, hC.2.2.2.1, hts⟩ hMet hcw hp rfl (by rw [List.length_map]; exact hn) hsz rfl (lv_room (by have := cat_sum G hst; omega)) hd hf
  rw [show (as.reverse ++ st).map (mv G) = (as.map (mv G)).reverse ++ st.map (mv G) by simp]
  exact hrun
theorem e_invI {r : Nat} {as : List PV} (hd : decode (mC μ) pc = .ok (.invokespecial idx, 3)) (hok : mOK μ' n) (hw : Cond.methodLink (mO μ) idx (mY μ') ∈ lw_t2 ∧ Cond.instanceMethod (mY μ') ∈ lw_t2) (hin : (mY μ').name = "<init>" ∧ mR μ' = none) (hk : mK μ' < mK μ ∧ mL μ' + mW μ' + 19 ≤ mW μ) (hlen : ((vR r :: as).map pcat).sum ≤ mL μ') (hn : as.length = n) (hst : (st.map pcat).sum ≤ 8) (hr : sT S r ≠ 0)
    (k : E G μ' 0 (lsArgs 0 (vR r :: as)) [] S I R Q') (kk : ∀ S' I' R' v, Q' S' I' R' v → E G μ (pc + 3) ls (retl v ++ st) S' I' R' Q) : E G μ pc ls ((vR r :: as).reverse ++ st) S I R Q := by
  refine e_callC hok hk hlen ?_ k kk
  intro p l e Rm s m args below meth c Hm locs cells slots lsM mc ms Qc o1 hC hM hsz hMet hR hf hp
  have hts := hC.2.2.2.2.1
  have h1 := (o1.2 r hr).1
  have hmv : mv G (vR r) = .ref (gB G + (r - 1)) := mv_ref G h1
  have hret : wsM μ' = Cond.code (mY μ') (mC μ') (mL μ') none :: lw_t2 := by unfold wsM; rw [hin.2]
  have hcw := cwI (R := Rm) (args := args) (own := mO μ) (index := idx) (rm := rmM μ' mc ms) (mc := mc) (ms := ms) n hts (good_ws hok) hret rfl rfl (hts _ hok.2.2.2.2.2) (hts _ hw.1) (hts _ hw.2) hin.1 hok.2.2.2.1 hR
  have hrun := va_runI (l := l) (e := e) (below := below) (meth := meth) (locs := locs) (cells := cells) (slots := slots) (As := as.map (mv G)) (rest := st.map (mv G)) (b := gB G + (r - 1)) (g := F0 m pc lsM ((as.map (mv G)).reverse ++ .ref (gB G + (r - 1)) :: st.map (mv G))) ⟨hC.1, hC.2.1, hC.2.2.1, hC.2.2.2.1, hts⟩ hMet hcw ⟨hp.1, fun U hU hW => by
    have := hp.2 U hU hW
    rw [List.map_cons, hmv] at this
    exact this⟩ rfl (by rw [List.length_map]; exact hn) hsz rfl (lv_room (by have := cat_sum G hst; omega)) hd hf
  rw [show ((vR r :: as).reverse ++ st).map (mv G) = (as.map (mv G)).reverse ++ .ref (gB G + (r - 1)) :: st.map (mv G) by simp [← hmv], show ((vR r :: as).map (mv G)).toArray = (Value.ref (gB G + (r - 1)) :: as.map (mv G)).toArray by rw [List.map_cons, hmv]]
  exact hrun
end CL
