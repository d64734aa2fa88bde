/-! ===== calls with their answers' types ===== -/
theorem bpos {c : Prop} [Decidable c] {A B : Prop} (hc : c) (h : if c then A else B) : A := by rwa [if_pos hc] at h
theorem bneg {c : Prop} [Decidable c] {A B : Prop} (hc : ¬ c) (h : if c then A else B) : B := by rwa [if_neg hc] at h
section WR
variable {G : Gl} {μ μ' : MB} {pc : Nat} {ls : Lc} {st stk as : List PV} {S : Sh} {I : MI} {R : MR} {Q : PQ} {idx ci n r : Nat} {host : String}
theorem i_VI (hs : (vR r :: as).reverse ++ st = stk) (hd : decode (mC μ) pc = .ok (.invokevirtual idx, 3)) (hok : mOK μ' n) (hw : Cond.methodLink (mO μ) idx (mY μ') ∈ lw_t2 ∧ Cond.instanceMethod (mY μ') ∈ lw_t2 ∧ Cond.selects (mY μ').cls (mY μ') (mY μ') ∈ lw_t2) (hk : mK μ' < mK μ ∧ mL μ' + mW μ' + 19 ≤ mW μ) (hlen : ((vR r :: as).map pcat).sum ≤ mL μ') (hn : as.length = n) (hst : (st.map pcat).sum ≤ 8) (hci : ci < 11 ∧ clC ci = (mY μ').cls) (ht : sT S r = ci + 1)
    (k : CI G μ' (vR r :: as) S I R (fun S' I' R' x => E G μ (pc + 3) ls (vI x :: st) S' I' R' Q)) : E G μ pc ls stk S I R Q := by
  subst hs
  exact e_invV hd hok hw hk hlen hn hst hci ht k (fun S' I' R' v ⟨x, hv, hx⟩ => by subst hv; exact hx)
theorem i_VV (hs : (vR r :: as).reverse ++ st = stk) (hd : decode (mC μ) pc = .ok (.invokevirtual idx, 3)) (hok : mOK μ' n) (hw : Cond.methodLink (mO μ) idx (mY μ') ∈ lw_t2 ∧ Cond.instanceMethod (mY μ') ∈ lw_t2 ∧ Cond.selects (mY μ').cls (mY μ') (mY μ') ∈ lw_t2) (hk : mK μ' < mK μ ∧ mL μ' + mW μ' + 19 ≤ mW μ) (hlen : ((vR r :: as).map pcat).sum ≤ mL μ') (hn : as.length = n) (hst : (st.map pcat).sum ≤ 8) (hci : ci < 11 ∧ clC ci = (mY μ').cls) (ht : sT S r = ci + 1)
    (k : CV G μ' (vR r :: as) S I R (fun S' I' R' => E G μ (pc + 3) ls st S' I' R' Q)) : E G μ pc ls stk S I R Q := by
  subst hs
  exact e_invV hd hok hw hk hlen hn hst hci ht k (fun S' I' R' v ⟨hv, hx⟩ => by subst hv; exact hx)
theorem i_VR (hs : (vR r :: as).reverse ++ st = stk) (hd : decode (mC μ) pc = .ok (.invokevirtual idx, 3)) (hok : mOK μ' n) (hw : Cond.methodLink (mO μ) idx (mY μ') ∈ lw_t2 ∧ Cond.instanceMethod (mY μ') ∈ lw_t2 ∧ Cond.selects (mY μ').cls (mY μ') (mY μ') ∈ lw_t2) (hk : mK μ' < mK μ ∧ mL μ' + mW μ' + 19 ≤ mW μ) (hlen : ((vR r :: as).map pcat).sum ≤ mL μ') (hn : as.length = n) (hst : (st.map pcat).sum ≤ 8) (hci : ci < 11 ∧ clC ci = (mY μ').cls) (ht : sT S r = ci + 1)
    (k : CR G μ' (vR r :: as) S I R (fun S' I' R' x => E G μ (pc + 3) ls (vR x :: st) S' I' R' Q)) : E G μ pc ls stk S I R Q := by
  subst hs
  exact e_invV hd hok hw hk hlen hn hst hci ht k (fun S' I' R' v ⟨x, hv, hx⟩ => by subst hv; exact hx)
theorem i_SI (hs : as.reverse ++ st = stk) (hd : decode (mC μ) pc = .ok (.invokestatic idx, 3)) (hok : mOK μ' n) (hw : Cond.methodLink (mO μ) idx (mY μ') ∈ lw_t2 ∧ Cond.static (mY μ') ∈ lw_t2) (hk : mK μ' < mK μ ∧ mL μ' + mW μ' + 19 ≤ mW μ) (hlen : (as.map pcat).sum ≤ mL μ') (hn : as.length = n) (hst : (st.map pcat).sum ≤ 8)
    (k : CI G μ' as S I R (fun S' I' R' x => E G μ (pc + 3) ls (vI x :: st) S' I' R' Q)) : E G μ pc ls stk S I R Q := by
  subst hs
  exact e_invS hd hok hw hk hlen hn hst k (fun S' I' R' v ⟨x, hv, hx⟩ => by subst hv; exact hx)
theorem i_SR (hs : as.reverse ++ st = stk) (hd : decode (mC μ) pc = .ok (.invokestatic idx, 3)) (hok : mOK μ' n) (hw : Cond.methodLink (mO μ) idx (mY μ') ∈ lw_t2 ∧ Cond.static (mY μ') ∈ lw_t2) (hk : mK μ' < mK μ ∧ mL μ' + mW μ' + 19 ≤ mW μ) (hlen : (as.map pcat).sum ≤ mL μ') (hn : as.length = n) (hst : (st.map pcat).sum ≤ 8)
    (k : CR G μ' as S I R (fun S' I' R' x => E G μ (pc + 3) ls (vR x :: st) S' I' R' Q)) : E G μ pc ls stk S I R Q := by
  subst hs
  exact e_invS hd hok hw hk hlen hn hst k (fun S' I' R' v ⟨x, hv, hx⟩ => by subst hv; exact hx)
theorem i_SV (hs : as.reverse ++ st = stk) (hd : decode (mC μ) pc = .ok (.invokestatic idx, 3)) (hok : mOK μ' n) (hw : Cond.methodLink (mO μ) idx (mY μ') ∈ lw_t2 ∧ Cond.static (mY μ') ∈ lw_t2) (hk : mK μ' < mK μ ∧ mL μ' + mW μ' + 19 ≤ mW μ) (hlen : (as.map pcat).sum ≤ mL μ') (hn : as.length = n) (hst : (st.map pcat).sum ≤ 8)
    (k : CV G μ' as S I R (fun S' I' R' => E G μ (pc + 3) ls st S' I' R' Q)) : E G μ pc ls stk S I R Q := by
  subst hs
  exact e_invS hd hok hw hk hlen hn hst k (fun S' I' R' v ⟨hv, hx⟩ => by subst hv; exact hx)
theorem i_SNR (hs : as.reverse ++ st = stk) (hd : decode (mC μ) pc = .ok (.invokestatic idx, 3)) (hok : mOK μ' n) (hw : Cond.methodLinkNest (mO μ) idx (mY μ') host ∈ lw_n ∧ Cond.static (mY μ') ∈ lw_t2) (hk : mK μ' < mK μ ∧ mL μ' + mW μ' + 19 ≤ mW μ) (hlen : (as.map pcat).sum ≤ mL μ') (hn : as.length = n) (hst : (st.map pcat).sum ≤ 8)
    (k : CR G μ' as S I R (fun S' I' R' x => E G μ (pc + 3) ls (vR x :: st) S' I' R' Q)) : E G μ pc ls stk S I R Q := by
  subst hs
  exact e_invSN hd hok hw hk hlen hn hst k (fun S' I' R' v ⟨x, hv, hx⟩ => by subst hv; exact hx)
theorem i_IV (hs : (vR r :: as).reverse ++ st = stk) (hd : decode (mC μ) pc = .ok (.invokespecial idx, 3)) (hok : mOK μ' n) (hw : Cond.methodLink (mO μ) idx (mY μ') ∈ lw_t2 ∧ Cond.instanceMethod (mY μ') ∈ lw_t2) (hin : (mY μ').name = "<init>" ∧ mR μ' = none) (hk : mK μ' < mK μ ∧ mL μ' + mW μ' + 19 ≤ mW μ) (hlen : ((vR r :: as).map pcat).sum ≤ mL μ') (hn : as.length = n) (hst : (st.map pcat).sum ≤ 8) (hr : sT S r ≠ 0)
    (k : CV G μ' (vR r :: as) S I R (fun S' I' R' => E G μ (pc + 3) ls st S' I' R' Q)) : E G μ pc ls stk S I R Q := by
  subst hs
  exact e_invI hd hok hw hin hk hlen hn hst hr k (fun S' I' R' v ⟨hv, hx⟩ => by subst hv; exact hx)
theorem i_INV (hs : (vR r :: as).reverse ++ st = stk) (hd : decode (mC μ) pc = .ok (.invokespecial idx, 3)) (hok : mOK μ' n) (hw : Cond.methodLinkNest (mO μ) idx (mY μ') host ∈ lw_n ∧ Cond.instanceMethod (mY μ') ∈ lw_t2) (hin : (mY μ').name = "<init>" ∧ mR μ' = none) (hk : mK μ' < mK μ ∧ mL μ' + mW μ' + 19 ≤ mW μ) (hlen : ((vR r :: as).map pcat).sum ≤ mL μ') (hn : as.length = n) (hst : (st.map pcat).sum ≤ 8) (hr : sT S r ≠ 0)
    (k : CV G μ' (vR r :: as) S I R (fun S' I' R' => E G μ (pc + 3) ls st S' I' R' Q)) : E G μ pc ls stk S I R Q := by
  subst hs
  exact e_invIN hd hok hw hin hk hlen hn hst hr k (fun S' I' R' v ⟨hv, hx⟩ => by subst hv; exact hx)
end WR
section EQ
variable {G : Gl} {μ : MB} {pc : Nat} {ls : Lc} {st : List PV} {S S2 : Sh} {I I2 : MI} {R R2 : MR} {Q : PQ}
theorem eqS (e : S2 = S) (k : E G μ pc ls st S2 I R Q) : E G μ pc ls st S I R Q := by subst e; exact k
theorem eqI (e : I2 = I) (k : E G μ pc ls st S I2 R Q) : E G μ pc ls st S I R Q := by subst e; exact k
theorem eqR (e : R2 = R) (k : E G μ pc ls st S I R2 Q) : E G μ pc ls st S I R Q := by subst e; exact k
theorem e_slenX (hd : decode (mC μ) pc = .ok (.arraylength, 1)) (hL : gL G ≤ 260) (k : E G μ (pc + 1) ls (vI (gL G : Int) :: st) S I R Q) : E G μ pc ls (vS :: st) S I R Q := e_slen hd k hL
end EQ
section MM
variable {G : Gl} {μ : MB} {pc idx : Nat} {ls : Lc} {st : List PV} {S : Sh} {I : MI} {R : MR} {Q : PQ} {x y : Int}
theorem e_mmax (hd : decode (mC μ) pc = .ok (.invokestatic idx, 3)) (hw : Cond.methodLink (mO μ) idx Lib.Math.max.name ∈ lw_t2) (hq : Cond.static Lib.Math.max.name ∈ lw_t2 ∧ Cond.initialized "java/lang/Math" ∈ lw_t2 ∧ Cond.code Lib.Math.max.name Lib.Math.max.code 2 (some .int) ∈ lw_t2) (hk : 1 ≤ mK μ ∧ 40 ≤ mW μ) (hst : (st.map pcat).sum ≤ 8)
    (k : E G μ (pc + 3) ls (vI (max x y) :: st) S I R Q) : E G μ pc ls (vI y :: vI x :: st) S I R Q := by
  refine e_step (Nat.le_refl _) (Nat.le_refl _) (fun a b c o => ⟨a, b, c, vok_cons (v := vI _) (by have h1 : InR y := vok_hd o; have h2 : InR x := vok_hd (vok_tl o); show InR _; unfold InR at h1 h2 ⊢; omega) (vok_tl (vok_tl o))⟩) ?_ k
  intro p l e Rm s m args below meth c Hm locs cells slots lsM Z o1 o2 o3 o4 hC hc hs hF kk
  have hts := hC.2.2.2.2.1
  have hfr := hC.2.2.2.2.2.2.2.2.2.2.1
  have hlo := hC.2.2.2.2.2.2.2.2.2.2.2.1
  have h1 : InR y := vok_hd o4
  have h2 : InR x := vok_hd (vok_tl o4)
  have hcs := cat_sum G hst
  refine va_mmax hC.1 hC.2.1 (by rw [hC.2.2.1]; exact hF.1.1.symm) hC.2.2.2.1 (hts _ hw) (hts _ hq.1) (hts _ hq.2.1) (hts _ hq.2.2) (by omega) (by omega) (by omega) (by omega) hd ?_
  have := kk Hm locs lsM hF
  simp only [Nat.sub_self, Nat.add_zero] at this
  have e : (if Int32.ofInt x < Int32.ofInt y then Int32.ofInt y else Int32.ofInt x) = Int32.ofInt (max x y) := by
    by_cases h : x < y
    · rw [if_pos ((i_lt h2 h1).mpr h), show max x y = y by omega]
    · rw [if_neg (fun q => h ((i_lt h2 h1).mp q)), show max x y = x by omega]
  rw [e]
  exact this
theorem e_mmin (hd : decode (mC μ) pc = .ok (.invokestatic idx, 3)) (hw : Cond.methodLink (mO μ) idx Lib.Math.min.name ∈ lw_t2) (hq : Cond.static Lib.Math.min.name ∈ lw_t2 ∧ Cond.initialized "java/lang/Math" ∈ lw_t2 ∧ Cond.code Lib.Math.min.name Lib.Math.min.code 2 (some .int) ∈ lw_t2) (hk : 1 ≤ mK μ ∧ 40 ≤ mW μ) (hst : (st.map pcat).sum ≤ 8)
    (k : E G μ (pc + 3) ls (vI (min x y) :: st) S I R Q) : E G μ pc ls (vI y :: vI x :: st) S I R Q := by
  refine e_step (Nat.le_refl _) (Nat.le_refl _) (fun a b c o => ⟨a, b, c, vok_cons (v := vI _) (by have h1 : InR y := vok_hd o; have h2 : InR x := vok_hd (vok_tl o); show InR _; unfold InR at h1 h2 ⊢; omega) (vok_tl (vok_tl o))⟩) ?_ k
  intro p l e Rm s m args below meth c Hm locs cells slots lsM Z o1 o2 o3 o4 hC hc hs hF kk
  have hts := hC.2.2.2.2.1
  have hfr := hC.2.2.2.2.2.2.2.2.2.2.1
  have hlo := hC.2.2.2.2.2.2.2.2.2.2.2.1
  have h1 : InR y := vok_hd o4
  have h2 : InR x := vok_hd (vok_tl o4)
  have hcs := cat_sum G hst
  refine va_mmin hC.1 hC.2.1 (by rw [hC.2.2.1]; exact hF.1.1.symm) hC.2.2.2.1 (hts _ hw) (hts _ hq.1) (hts _ hq.2.1) (hts _ hq.2.2) (by omega) (by omega) (by omega) (by omega) hd ?_
  have := kk Hm locs lsM hF
  simp only [Nat.sub_self, Nat.add_zero] at this
  have e : (if Int32.ofInt y < Int32.ofInt x then Int32.ofInt y else Int32.ofInt x) = Int32.ofInt (min x y) := by
    by_cases h : y < x
    · rw [if_pos ((i_lt h1 h2).mpr h), show min x y = y by omega]
    · rw [if_neg (fun q => h ((i_lt h1 h2).mp q)), show min x y = x by omega]
  first | (rw [e]; exact this) | (rw [← e] at this; exact this)
end MM
