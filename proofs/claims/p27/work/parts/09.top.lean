/-! ===== THE WALK: calls across the nest, Object's constructor, the script; the law's end ===== -/
section NE
variable {G : Gl} {μ μ' : MB} {pc pc2 : Nat} {ls ls2 : Lc} {st st2 as : List PV} {S S2 : Sh} {I I2 : MI} {R R2 : MR} {Q Q' : PQ} {idx ci f a n : Nat} {i x y : Int}
theorem e_invSN {host : String} {as : List PV} (hd : decode (mC μ) pc = .ok (.invokestatic idx, 3)) (hok : mOK μ' n) (hw : Cond.methodLinkNest (mO μ) idx (mY μ') host ∈ lw_n ∧ Cond.static (mY μ') ∈ lw_t2) (hk : mK μ' < mK μ ∧ mL μ' + mW μ' + 19 ≤ mW μ) (hlen : (as.map pcat).sum ≤ mL μ') (hn : as.length = n) (hst : (st.map pcat).sum ≤ 8)
    (k : E G μ' 0 (lsArgs 0 as) [] S I R Q') (kk : ∀ S' I' R' v, Q' S' I' R' v → E G μ (pc + 3) ls (retl v ++ st) S' I' R' Q) : E G μ pc ls (as.reverse ++ st) S I R Q := by
  refine e_callC hok hk hlen ?_ k kk
  intro p l e Rm s m args below meth c Hm locs cells slots lsM mc ms Qc o1 hC hM hsz hMet hR hf hp
  have hts := hC.2.2.2.2.1
  have hEx := hC.2.2.2.2.2.2.2.2.2.2.2.2.2.2.2.2
  have hcw := va_cnB (R := Rm) (args := args) (rm := rmM μ' mc ms) (mc := mc) (ms := ms) n hts (good_ws hok) rfl rfl rfl (hEx.1.1 _ hw.1) (hts _ hok.2.2.2.2.2) hok.2.2.2.1 hR
  have hrun := va_runSN (l := l) (e := e) (below := below) (meth := meth) (locs := locs) (cells := cells) (slots := slots) (As := as.map (mv G)) (rest := st.map (mv G)) (g := F0 m pc lsM ((as.map (mv G)).reverse ++ st.map (mv G))) ⟨hC.1, hC.2.1, hC.2.2.1, hC.2.2.2.1, hts⟩ hMet ⟨hcw, hts _ hw.2, trivial⟩ hp rfl (by rw [List.length_map]; exact hn) hsz rfl (lv_room (by have := cat_sum G hst; omega)) hd hf
  rw [show (as.reverse ++ st).map (mv G) = (as.map (mv G)).reverse ++ st.map (mv G) by simp]
  exact hrun
theorem e_invIN {host : String} {r : Nat} {as : List PV} (hd : decode (mC μ) pc = .ok (.invokespecial idx, 3)) (hok : mOK μ' n) (hw : Cond.methodLinkNest (mO μ) idx (mY μ') host ∈ lw_n ∧ Cond.instanceMethod (mY μ') ∈ lw_t2) (hin : (mY μ').name = "<init>" ∧ mR μ' = none) (hk : mK μ' < mK μ ∧ mL μ' + mW μ' + 19 ≤ mW μ) (hlen : ((vR r :: as).map pcat).sum ≤ mL μ') (hn : as.length = n) (hst : (st.map pcat).sum ≤ 8) (hr : sT S r ≠ 0)
    (k : E G μ' 0 (lsArgs 0 (vR r :: as)) [] S I R Q') (kk : ∀ S' I' R' v, Q' S' I' R' v → E G μ (pc + 3) ls (retl v ++ st) S' I' R' Q) : E G μ pc ls ((vR r :: as).reverse ++ st) S I R Q := by
  refine e_callC hok hk hlen ?_ k kk
  intro p l e Rm s m args below meth c Hm locs cells slots lsM mc ms Qc o1 hC hM hsz hMet hR hf hp
  have hts := hC.2.2.2.2.1
  have hEx := hC.2.2.2.2.2.2.2.2.2.2.2.2.2.2.2.2
  have h1 := (o1.2 r hr).1
  have hmv : mv G (vR r) = .ref (gB G + (r - 1)) := mv_ref G h1
  have hret : wsM μ' = Cond.code (mY μ') (mC μ') (mL μ') none :: lw_t2 := by unfold wsM; rw [hin.2]
  have hcw := va_cnB (R := Rm) (args := args) (rm := rmM μ' mc ms) (mc := mc) (ms := ms) n hts (good_ws hok) hret rfl rfl (hEx.1.1 _ hw.1) (hts _ hok.2.2.2.2.2) hok.2.2.2.1 hR
  have hrun := va_runIN (l := l) (e := e) (below := below) (meth := meth) (locs := locs) (cells := cells) (slots := slots) (As := as.map (mv G)) (rest := st.map (mv G)) (b := gB G + (r - 1)) (g := F0 m pc lsM ((as.map (mv G)).reverse ++ .ref (gB G + (r - 1)) :: st.map (mv G))) ⟨hC.1, hC.2.1, hC.2.2.1, hC.2.2.2.1, hts⟩ hMet ⟨hcw, hin.1, hts _ hw.2⟩ ⟨hp.1, fun U hU hW => by
    have := hp.2 U hU hW
    rw [List.map_cons, hmv] at this
    exact this⟩ rfl (by rw [List.length_map]; exact hn) hsz rfl (lv_room (by have := cat_sum G hst; omega)) hd hf
  rw [show ((vR r :: as).reverse ++ st).map (mv G) = (as.map (mv G)).reverse ++ .ref (gB G + (r - 1)) :: st.map (mv G) by simp [← hmv], show ((vR r :: as).map (mv G)).toArray = (Value.ref (gB G + (r - 1)) :: as.map (mv G)).toArray by rw [List.map_cons, hmv]]
  exact hrun
theorem e_objI {r : Nat} (hd : decode (mC μ) pc = .ok (.invokespecial idx, 3)) (hw : Cond.methodLink (mO μ) idx Lib.objectInit ∈ lw_t2 ∧ Cond.instanceMethod Lib.objectInit ∈ lw_t2 ∧ Cond.code Lib.objectInit ⟨#[0xb1]⟩ 1 none ∈ lw_t2) (hk : 1 ≤ mK μ ∧ 40 ≤ mW μ) (hst : (st.map pcat).sum ≤ 8) (hr : sT S r ≠ 0) (k : E G μ (pc + 3) ls st S I R Q) : E G μ pc ls (vR r :: st) S I R Q := by
  refine e_go (fun _ _ h => vok_tl h) (fun p l e Rm s m args below meth c Hm locs cells slots lsM Z o1 _ _ o4 hC hx hb hF kk => ?_) k
  have hts := hC.2.2.2.2.1
  have h1 := (o1.2 r hr).1
  have hfr := hC.2.2.2.2.2.2.2.2.2.2.1
  have hlo := hC.2.2.2.2.2.2.2.2.2.2.2.1
  rw [List.map_cons, mv_ref G h1]
  refine W.objInit hx hb hC.2.2.2.1 (hts _ hw.1) (hts _ hw.2.1) (hts _ hw.2.2) rfl (by rw [hC.2.2.1]; exact hF.1.1) rfl hd (by omega) ?_ kk
  have := cat_sum G hst
  show 2 * 0 + _ + 12 ≤ _
  omega
theorem e_slen (hd : decode (mC μ) pc = .ok (.arraylength, 1)) (k : E G μ (pc + 1) ls (vI (gL G : Int) :: st) S I R Q) (hL : gL G ≤ 260) : E G μ pc ls (vS :: st) S I R Q := by
  refine e_go (fun _ _ h => vok_cons (v := vI _) (by show InR _; unfold InR; omega) (vok_tl h)) (fun p l e Rm s m args below meth c Hm locs cells slots lsM Z o1 _ _ o4 hC hx hb hF kk => ?_) k
  have hbs := hC.2.2.2.2.2.2.2.2.2.2.2.2.1
  have hbb := hC.2.2.2.2.2.2.2.2.2.2.2.2.2.1
  have hX := hC.2.2.2.2.2.2.2.2.2.2.2.2.2.2.1
  exact va_slen hx hb hX (Nat.lt_of_lt_of_le hbb hbs) (Nat.not_le.mpr hbb) hF.2.2 hd kk
theorem e_sld (hd : decode (mC μ) pc = .ok (.iaload, 1)) (hi : 0 ≤ i ∧ i < (gL G : Int)) (k : E G μ (pc + 1) ls (vI (gX G i.toNat).toInt :: st) S I R Q) : E G μ pc ls (vI i :: vS :: st) S I R Q := by
  refine e_go (fun _ _ h => vok_cons (v := vI _) (InR_toInt _) (vok_tl (vok_tl h))) (fun p l e Rm s m args below meth c Hm locs cells slots lsM Z o1 _ _ o4 hC hx hb hF kk => ?_) k
  have hbs := hC.2.2.2.2.2.2.2.2.2.2.2.2.1
  have hbb := hC.2.2.2.2.2.2.2.2.2.2.2.2.2.1
  have hX := hC.2.2.2.2.2.2.2.2.2.2.2.2.2.2.1
  have hii : InR i := vok_hd o4
  refine va_sld (i := Int32.ofInt i) hx hb hX (Nat.lt_of_lt_of_le hbb hbs) (Nat.not_le.mpr hbb) hF.2.2 (in_of hii hi) hd ?_
  rw [cl_of hii]
  have : mv G (vI (gX G i.toNat).toInt) = .int (gX G i.toNat) := congrArg Value.int (Int32.ofInt_toInt _)
  rw [List.map_cons, this] at kk
  exact kk
end NE
-- the typed ends of methods
abbrev qI (Q : Sh → MI → MR → Int → Prop) : PQ := fun S I R v => ∃ x, v = vI x ∧ Q S I R x
abbrev qR (Q : Sh → MI → MR → Nat → Prop) : PQ := fun S I R v => ∃ r, v = vR r ∧ Q S I R r
abbrev qV (Q : Sh → MI → MR → Prop) : PQ := fun S I R v => v = vS ∧ Q S I R
def CI (G : Gl) (μ : MB) (as : List PV) (S : Sh) (I : MI) (R : MR) (Q : Sh → MI → MR → Int → Prop) : Prop := E G μ 0 (lsArgs 0 as) [] S I R (qI Q)
def CR (G : Gl) (μ : MB) (as : List PV) (S : Sh) (I : MI) (R : MR) (Q : Sh → MI → MR → Nat → Prop) : Prop := E G μ 0 (lsArgs 0 as) [] S I R (qR Q)
def CV (G : Gl) (μ : MB) (as : List PV) (S : Sh) (I : MI) (R : MR) (Q : Sh → MI → MR → Prop) : Prop := E G μ 0 (lsArgs 0 as) [] S I R (qV Q)
theorem CI.mono {G : Gl} {μ : MB} {as : List PV} {S : Sh} {I : MI} {R : MR} {Q Q' : Sh → MI → MR → Int → Prop} (h : CI G μ as S I R Q) (hq : ∀ S' I' R' x, Q S' I' R' x → Q' S' I' R' x) : CI G μ as S I R Q' :=
  E.mono h (fun _ _ _ _ ⟨x, hv, hx⟩ => ⟨x, hv, hq _ _ _ _ hx⟩)
theorem CR.mono {G : Gl} {μ : MB} {as : List PV} {S : Sh} {I : MI} {R : MR} {Q Q' : Sh → MI → MR → Nat → Prop} (h : CR G μ as S I R Q) (hq : ∀ S' I' R' x, Q S' I' R' x → Q' S' I' R' x) : CR G μ as S I R Q' :=
  E.mono h (fun _ _ _ _ ⟨x, hv, hx⟩ => ⟨x, hv, hq _ _ _ _ hx⟩)
theorem CV.mono {G : Gl} {μ : MB} {as : List PV} {S : Sh} {I : MI} {R : MR} {Q Q' : Sh → MI → MR → Prop} (h : CV G μ as S I R Q) (hq : ∀ S' I' R', Q S' I' R' → Q' S' I' R') : CV G μ as S I R Q' :=
  E.mono h (fun _ _ _ _ ⟨hv, hx⟩ => ⟨hv, hq _ _ _ hx⟩)
-- the law, walked: the class of the script and the start
abbrev R_law0 : String := RL
abbrev M_law : MB := (RL, yL_law, cL_law, 9, some .boolean, 13, 510)
def S0 : Sh := (1, 0, fun _ => 0, fun _ => 0)
def I0 : MI := fun _ _ => 0
def R0 : MR := fun _ _ => 0
