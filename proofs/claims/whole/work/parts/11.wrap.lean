/-! ===== calls with their answers' types ===== -/
theorem bpos {c : Prop} [Decidable c] {A B : Prop} (hc : c) (h : if c then A else B) : A := by rwa [if_pos hc] at h
theorem bneg {c : Prop} [Decidable c] {A B : Prop} (hc : ¬ c) (h : if c then A else B) : B := by rwa [if_neg hc] at h
section WR
variable {G : Gl} {μ μ' : MB} {pc : Nat} {ls : Lc} {st stk as : List PV} {S : Sh} {I : MI} {R : MR} {Q : PQ} {idx ci n r : Nat} {host : String}
theorem i_VI (hs : (vR r :: as).reverse ++ st = stk) (hd : decode (mC μ) pc = .ok (.invokevirtual idx, 3)) (hok : mOK μ' n) (hw : Cond.methodLink (mO μ) idx (mY μ') ∈ lw_t2 ∧ Cond.instanceMethod (mY μ') ∈ lw_t2 ∧ Cond.selects (mY μ').cls (mY μ') (mY μ') ∈ lw_t2) (hk : mK μ' < mK μ) (hlen : ((vR r :: as).map pcat).sum ≤ mL μ') (hn : as.length = n) (hst : st.length ≤ 4) (hci : ci < 10 ∧ clC ci = (mY μ').cls) (ht : sT S r = ci + 1)
    (k : CI G μ' (vR r :: as) S I R (fun S' I' R' x => E G μ (pc + 3) ls (vI x :: st) S' I' R' Q)) : E G μ pc ls stk S I R Q := by
  subst hs
  exact e_invV hd hok hw hk hlen hn hst hci ht k (fun S' I' R' v ⟨x, hv, hx⟩ => by subst hv; exact hx)
theorem i_VV (hs : (vR r :: as).reverse ++ st = stk) (hd : decode (mC μ) pc = .ok (.invokevirtual idx, 3)) (hok : mOK μ' n) (hw : Cond.methodLink (mO μ) idx (mY μ') ∈ lw_t2 ∧ Cond.instanceMethod (mY μ') ∈ lw_t2 ∧ Cond.selects (mY μ').cls (mY μ') (mY μ') ∈ lw_t2) (hk : mK μ' < mK μ) (hlen : ((vR r :: as).map pcat).sum ≤ mL μ') (hn : as.length = n) (hst : st.length ≤ 4) (hci : ci < 10 ∧ clC ci = (mY μ').cls) (ht : sT S r = ci + 1)
    (k : CV G μ' (vR r :: as) S I R (fun S' I' R' => E G μ (pc + 3) ls st S' I' R' Q)) : E G μ pc ls stk S I R Q := by
  subst hs
  exact e_invV hd hok hw hk hlen hn hst hci ht k (fun S' I' R' v ⟨hv, hx⟩ => by subst hv; exact hx)
theorem i_VR (hs : (vR r :: as).reverse ++ st = stk) (hd : decode (mC μ) pc = .ok (.invokevirtual idx, 3)) (hok : mOK μ' n) (hw : Cond.methodLink (mO μ) idx (mY μ') ∈ lw_t2 ∧ Cond.instanceMethod (mY μ') ∈ lw_t2 ∧ Cond.selects (mY μ').cls (mY μ') (mY μ') ∈ lw_t2) (hk : mK μ' < mK μ) (hlen : ((vR r :: as).map pcat).sum ≤ mL μ') (hn : as.length = n) (hst : st.length ≤ 4) (hci : ci < 10 ∧ clC ci = (mY μ').cls) (ht : sT S r = ci + 1)
    (k : CR G μ' (vR r :: as) S I R (fun S' I' R' x => E G μ (pc + 3) ls (vR x :: st) S' I' R' Q)) : E G μ pc ls stk S I R Q := by
  subst hs
  exact e_invV hd hok hw hk hlen hn hst hci ht k (fun S' I' R' v ⟨x, hv, hx⟩ => by subst hv; exact hx)
theorem i_SI (hs : as.reverse ++ st = stk) (hd : decode (mC μ) pc = .ok (.invokestatic idx, 3)) (hok : mOK μ' n) (hw : Cond.methodLink (mO μ) idx (mY μ') ∈ lw_t2 ∧ Cond.static (mY μ') ∈ lw_t2) (hk : mK μ' < mK μ) (hlen : (as.map pcat).sum ≤ mL μ') (hn : as.length = n) (hst : st.length ≤ 4)
    (k : CI G μ' as S I R (fun S' I' R' x => E G μ (pc + 3) ls (vI x :: st) S' I' R' Q)) : E G μ pc ls stk S I R Q := by
  subst hs
  exact e_invS hd hok hw hk hlen hn hst k (fun S' I' R' v ⟨x, hv, hx⟩ => by subst hv; exact hx)
theorem i_SR (hs : as.reverse ++ st = stk) (hd : decode (mC μ) pc = .ok (.invokestatic idx, 3)) (hok : mOK μ' n) (hw : Cond.methodLink (mO μ) idx (mY μ') ∈ lw_t2 ∧ Cond.static (mY μ') ∈ lw_t2) (hk : mK μ' < mK μ) (hlen : (as.map pcat).sum ≤ mL μ') (hn : as.length = n) (hst : st.length ≤ 4)
    (k : CR G μ' as S I R (fun S' I' R' x => E G μ (pc + 3) ls (vR x :: st) S' I' R' Q)) : E G μ pc ls stk S I R Q := by
  subst hs
  exact e_invS hd hok hw hk hlen hn hst k (fun S' I' R' v ⟨x, hv, hx⟩ => by subst hv; exact hx)
theorem i_SV (hs : as.reverse ++ st = stk) (hd : decode (mC μ) pc = .ok (.invokestatic idx, 3)) (hok : mOK μ' n) (hw : Cond.methodLink (mO μ) idx (mY μ') ∈ lw_t2 ∧ Cond.static (mY μ') ∈ lw_t2) (hk : mK μ' < mK μ) (hlen : (as.map pcat).sum ≤ mL μ') (hn : as.length = n) (hst : st.length ≤ 4)
    (k : CV G μ' as S I R (fun S' I' R' => E G μ (pc + 3) ls st S' I' R' Q)) : E G μ pc ls stk S I R Q := by
  subst hs
  exact e_invS hd hok hw hk hlen hn hst k (fun S' I' R' v ⟨hv, hx⟩ => by subst hv; exact hx)
theorem i_SNR (hs : as.reverse ++ st = stk) (hd : decode (mC μ) pc = .ok (.invokestatic idx, 3)) (hok : mOK μ' n) (hw : Cond.methodLinkNest (mO μ) idx (mY μ') host ∈ lw_n ∧ Cond.static (mY μ') ∈ lw_t2) (hk : mK μ' < mK μ) (hlen : (as.map pcat).sum ≤ mL μ') (hn : as.length = n) (hst : st.length ≤ 4)
    (k : CR G μ' as S I R (fun S' I' R' x => E G μ (pc + 3) ls (vR x :: st) S' I' R' Q)) : E G μ pc ls stk S I R Q := by
  subst hs
  exact e_invSN hd hok hw hk hlen hn hst k (fun S' I' R' v ⟨x, hv, hx⟩ => by subst hv; exact hx)
theorem i_IV (hs : (vR r :: as).reverse ++ st = stk) (hd : decode (mC μ) pc = .ok (.invokespecial idx, 3)) (hok : mOK μ' n) (hw : Cond.methodLink (mO μ) idx (mY μ') ∈ lw_t2 ∧ Cond.instanceMethod (mY μ') ∈ lw_t2) (hin : (mY μ').name = "<init>" ∧ mR μ' = none) (hk : mK μ' < mK μ) (hlen : ((vR r :: as).map pcat).sum ≤ mL μ') (hn : as.length = n) (hst : st.length ≤ 4) (hr : sT S r ≠ 0)
    (k : CV G μ' (vR r :: as) S I R (fun S' I' R' => E G μ (pc + 3) ls st S' I' R' Q)) : E G μ pc ls stk S I R Q := by
  subst hs
  exact e_invI hd hok hw hin hk hlen hn hst hr k (fun S' I' R' v ⟨hv, hx⟩ => by subst hv; exact hx)
theorem i_INV (hs : (vR r :: as).reverse ++ st = stk) (hd : decode (mC μ) pc = .ok (.invokespecial idx, 3)) (hok : mOK μ' n) (hw : Cond.methodLinkNest (mO μ) idx (mY μ') host ∈ lw_n ∧ Cond.instanceMethod (mY μ') ∈ lw_t2) (hin : (mY μ').name = "<init>" ∧ mR μ' = none) (hk : mK μ' < mK μ) (hlen : ((vR r :: as).map pcat).sum ≤ mL μ') (hn : as.length = n) (hst : st.length ≤ 4) (hr : sT S r ≠ 0)
    (k : CV G μ' (vR r :: as) S I R (fun S' I' R' => E G μ (pc + 3) ls st S' I' R' Q)) : E G μ pc ls stk S I R Q := by
  subst hs
  exact e_invIN hd hok hw hin hk hlen hn hst hr k (fun S' I' R' v ⟨hv, hx⟩ => by subst hv; exact hx)
end WR
section EQ
variable {G : Gl} {μ : MB} {pc : Nat} {ls : Lc} {st : List PV} {S S2 : Sh} {I I2 : MI} {R R2 : MR} {Q : PQ}
theorem eqS (e : S2 = S) (k : E G μ pc ls st S2 I R Q) : E G μ pc ls st S I R Q := by subst e; exact k
theorem eqI (e : I2 = I) (k : E G μ pc ls st S I2 R Q) : E G μ pc ls st S I R Q := by subst e; exact k
theorem eqR (e : R2 = R) (k : E G μ pc ls st S I R2 Q) : E G μ pc ls st S I R Q := by subst e; exact k
theorem e_slenX (hd : decode (mC μ) pc = .ok (.arraylength, 1)) (hL : gL G ≤ 3072) (k : E G μ (pc + 1) ls (vI (gL G : Int) :: st) S I R Q) : E G μ pc ls (vS :: st) S I R Q := e_slen hd k hL
end EQ
