/-! ===== THE WALK: new cells, copies ===== -/
def shNew (S : Sh) (t len u : Nat) : Sh := (sN S + 1, sU S + u, up1 (sT S) (sN S) t, up1 (sL S) (sN S) len)
theorem sN_new (S : Sh) (t len u : Nat) : sN (shNew S t len u) = sN S + 1 := rfl
theorem sU_new (S : Sh) (t len u : Nat) : sU (shNew S t len u) = sU S + u := rfl
theorem sT_new (S : Sh) (t len u : Nat) : sT (shNew S t len u) = up1 (sT S) (sN S) t := rfl
theorem sL_new (S : Sh) (t len u : Nat) : sL (shNew S t len u) = up1 (sL S) (sN S) len := rfl
def mNew {α : Type} (f : Nat → Nat → α) (n : Nat) (z : α) : Nat → Nat → α := up1 f n (fun _ => z)
theorem okS_new {S : Sh} {t len u : Nat} (h : okS S) (ht : t ≤ 11 ∨ (21 ≤ t ∧ t ≤ 27)) (hl : len < 2147483648) : okS (shNew S t len u) := by
  refine ⟨by rw [sN_new]; omega, fun a ha => ?_⟩
  rw [sT_new] at ha
  rw [sN_new, sT_new, sL_new]
  by_cases e : a = sN S
  · subst e
    rw [up1_s, up1_s]
    exact ⟨h.1, by omega, ht, hl⟩
  · rw [up1_n e] at ha ⊢
    rw [up1_n e]
    have := h.2 a ha
    exact ⟨this.1, by omega, this.2.2⟩
theorem irng0 (ty : FieldType) : irng ty 0 := by
  cases ty <;> first | exact Or.inl rfl | (constructor <;> decide)
theorem okI_new {S : Sh} {I : MI} {t len u : Nat} (h : okI S I) : okI (shNew S t len u) (mNew I (sN S) 0) := by
  intro a j
  rw [sT_new]
  unfold mNew
  by_cases e : a = sN S
  · subst e
    rw [up1_s, up1_s]
    exact irng0 _
  · rw [up1_n e, up1_n e]
    exact h a j
theorem ws_new (G : Gl) {S : Sh} (I : MI) (R : MR) (t len u : Nat) (h0 : 1 ≤ sN S) : wsOf G (shNew S t len u) (mNew I (sN S) 0) (mNew R (sN S) 0) = wsOf G S I R ++ [(gB G + (sN S - 1), cellE G t len (fun _ => 0) (fun _ => 0))] := by
  have := wsOf_push G (S := S) (S' := shNew S t len u) (I := I) (I' := mNew I (sN S) 0) (R := R) (R' := mNew R (sN S) 0) h0 rfl
    (fun k hk => by rw [sT_new, up1_n (by omega)]) (fun k hk => by rw [sL_new, up1_n (by omega)]) (fun k hk => by unfold mNew; rw [up1_n (by omega)]) (fun k hk => by unfold mNew; rw [up1_n (by omega)])
  rw [this]
  unfold mNew
  rw [sT_new, sL_new, up1_s, up1_s, up1_s, up1_s]
theorem tk_lt : ∀ ci, ci < 11 → ∀ j, j < clN ci → tk (clTy ci j) < 3 := by decide +kernel
section NW
variable {G : Gl} {μ : MB} {pc pc2 : Nat} {ls ls2 : Lc} {st st2 : List PV} {S S2 : Sh} {I I2 : MI} {R R2 : MR} {Q : PQ} {idx ci f a : Nat} {i x : Int}
/-- a cell of its kind comes behind all others -/
theorem e_newC {t len u pc2 : Nat} {st0 : List PV} (hst : okV st0 → okV st) (ht : t ≤ 11 ∨ (21 ≤ t ∧ t ≤ 27)) (hl : len < 2147483648)
    (h : ∀ (p : Program) (l : Launch) (e : Env) (Rm : Room) (s : State) (m : MethodId) (args : Array Value) (below : List Frame) (meth : Method) (c : Code) (Hm : Heap) (locs : List Loc) (cells slots : Nat) (lsM : Array Slot) (Z : State → Prop),
      okV st0 → Cx G μ p Rm s m args meth c → cells + 1 ≤ Rm.cells → slots + u ≤ Rm.slots →
      (∀ H' : Heap, H'.size = Hm.size + 1 → (∀ q, q < Hm.size → H'[q]? = Hm[q]?) → va_at (gD G) vwCl (Hm.size, cellE G t len (fun _ => 0) (fun _ => 0)) H' → W p l e Rm s m args below meth c H' locs (cells + 1) (slots + u) Z (F0 m pc2 lsM (.ref Hm.size :: st.map (mv G)))) →
      W p l e Rm s m args below meth c Hm locs cells slots Z (F0 m pc lsM (st0.map (mv G))))
    (k : E G μ pc2 ls (vR (sN S) :: st) (shNew S t len u) (mNew I (sN S) 0) (mNew R (sN S) 0) Q) : E G μ pc ls st0 S I R Q := by
  refine e_step (by rw [sN_new]; omega) (by rw [sU_new]; omega) (fun o1 o2 o3 o4 => ⟨okS_new o1 ht hl, okI_new o2, o3, vok_cons (v := vR _) trivial (hst o4)⟩) ?_ k
  intro p l e Rm s m args below meth c Hm locs cells slots lsM Z o1 o2 o3 o4 hC hc hs hF kk
  rw [sN_new] at hc
  rw [sU_new] at hs
  have hsz := hF.2.1.2
  refine h p l e Rm s m args below meth c Hm locs cells slots lsM Z o4 hC (by omega) (by omega) fun H1 z1 oq hat => ?_
  have hP : va_P (gD G) vwCl (wsOf G (shNew S t len u) (mNew I (sN S) 0) (mNew R (sN S) 0)) H1 := by
    rw [ws_new G I R t len u o1.1]
    refine (hF.2.1.1.kept (fun k q hk => oq q.1 (hF.2.1.1 k q hk).lt)).app (fun k q hq => ?_)
    have hz : k < 1 := (List.getElem?_eq_some_iff.mp hq).1
    rw [show k = 0 by omega] at hq
    cases hq
    rw [← hsz]
    exact hat
  have hS2 : va_S (fun q => gB G ≤ q) s.heap H1 locs := ⟨by have := hF.2.2.1; omega, fun q h1 h2 => (oq q (Nat.lt_of_lt_of_le h1 hF.2.2.1)).trans (hF.2.2.2.1 q h1 h2), hF.2.2.2.2⟩
  have := kk H1 locs lsM ⟨hF.1, ⟨hP, by rw [sN_new, z1, hsz]; have := o1.1; omega⟩, hS2⟩
  rw [List.map_cons, mv_ref G o1.1, ← hsz, sN_new, sU_new] at this
  rw [show sN S + 1 - sN S = 1 by omega, show sU S + u - sU S = u by omega] at this
  exact this
theorem e_new (hd : decode (mC μ) pc = .ok (.new idx, 3)) (hci : ci < 11) (hw : Cond.classLink (mO μ) idx (clC ci) ∈ lw_t2 ∧ Cond.instantiable (clC ci) (clN ci) ∈ lw_t2 ∧ Cond.initialized (clC ci) ∈ lw_t2) (k : E G μ (pc + 3) ls (vR (sN S) :: st) (shNew S (ci + 1) 0 (clN ci)) (mNew I (sN S) 0) (mNew R (sN S) 0) Q) : E G μ pc ls st S I R Q := by
  refine e_newC (fun h => h) (by omega) (by omega) (fun p l e Rm s m args below meth c Hm locs cells slots lsM Z o4 hC hc hs kk => ?_) k
  obtain ⟨hcl, hin, hty, hnm⟩ := clOK_all ci hci
  have hts := hC.2.2.2.2.1
  have hKn := hC.2.2.2.2.2.2.2.2.1.1 ci _ hcl
  refine W.newcK hC.1 hC.2.1 hC.2.2.2.1 (hts _ hw.1) (hts _ hw.2.1) (hts _ hw.2.2) rfl hd hc hs hKn.2.1 rfl fun H1 kC hkC e1 z1 o1 => ?_
  refine kk H1 z1 o1 ?_
  rw [cellE_cls G hci]
  refine ⟨_, hcl, (u_born (clTy ci) hts hin hKn hkC e1 hty).to (fun j hj => ?_)⟩
  unfold vp_V
  rw [List.getD_eq_getElem?_getD, fvals_at G hj]
  have htk := tk_lt ci hci j hj
  generalize clTy ci j = ty at htk
  show defaultValue ty = fval G ty 0 0
  cases ty <;> first | rfl | exact absurd htk (by decide)
theorem tys_eq {s : State} {G : Gl} (hK : va_K (gD G) vwCl (gT G) s) (hT : (gT G).map Prod.snd = atyL) {t : Nat} {ty : FieldType} (hty : atyL[t - 21]? = some ty) {cA : ClassId} (hf : s.vm.findClass ("[" ++ ty.toString) = some cA) : cA = gC G t := by
  have h := (hK.2 _ _ (gT_at hT hty)).2
  have h2 : s.vm.findClass ("[" ++ ty.toString) = some (gC G t) := by
    cases ty with
    | object C => obtain ⟨kA, comp, -, -, -, h4⟩ := h; exact h4
    | _ => exact h
  exact Option.some.inj (hf.symm.trans h2)
theorem e_newa {t : Nat} {atype : ArrayType} {n : Nat} (hd : decode (mC μ) pc = .ok (.newarray atype, 2)) (hat : (t = 21 ∧ atype = .int) ∨ (t = 22 ∧ atype = .byte)) (hw : Cond.arrayClass (newarray.typeOf atype) ∈ lw_t2) (hx : x = (n : Int)) (hn : n ≤ 100000000)
    (k : E G μ (pc + 2) ls (vR (sN S) :: st) (shNew S t n n) (mNew I (sN S) 0) (mNew R (sN S) 0) Q) : E G μ pc ls (vI x :: st) S I R Q := by
  refine e_newC (fun h => vok_tl h) (by omega) (by omega) (fun p l e Rm s m args below meth c Hm locs cells slots lsM Z o4 hC hc hs kk => ?_) k
  have hts := hC.2.2.2.2.1
  have hxx : InR x := vok_hd o4
  have hcl : (Int32.ofInt x).toNatClampNeg = n := by rw [cl_of hxx, hx]; rfl
  have hn0 : ¬ Int32.ofInt x < 0 := by
    intro h
    rw [Int32.lt_iff_toInt_lt, o32 hxx] at h
    have : x < 0 := h
    omega
  rcases hat with ⟨rfl, rfl⟩ | ⟨rfl, rfl⟩
  · refine va_newaK hC.1 hC.2.1 (hts _ hw) rfl hd rfl (n := Int32.ofInt x) (N := n) hn0 hcl (by show n * 4 ≤ _; omega) hc hs rfl fun H1 cA e1 z1 o1 hA hNm => ?_
    refine kk H1 z1 o1 ?_
    rw [cellE_int G (by omega) (by omega), ← tys_eq (t := 21) hC.2.2.2.2.2.2.2.2.1 hC.2.2.2.2.2.2.2.2.2.1 rfl hNm]
    show H1[Hm.size]? = some (vp_cell _ _)
    rw [e1, vp_cell_i]
    rfl
  · refine va_newaK hC.1 hC.2.1 (hts _ hw) rfl hd rfl (n := Int32.ofInt x) (N := n) hn0 hcl (by show n * 1 ≤ _; omega) hc hs rfl fun H1 cA e1 z1 o1 hA hNm => ?_
    refine kk H1 z1 o1 ?_
    rw [cellE_int G (by omega) (by omega), ← tys_eq (t := 22) hC.2.2.2.2.2.2.2.2.1 hC.2.2.2.2.2.2.2.2.2.1 rfl hNm]
    show H1[Hm.size]? = some (vp_cell _ _)
    rw [e1, vp_cell_i]
    rfl
theorem e_anew {t : Nat} {C : String} {n : Nat} (hd : decode (mC μ) pc = .ok (.anewarray idx, 3)) (ht1 : 24 ≤ t) (ht2 : t ≤ 26) (hty : atyL[t - 21]? = some (.object C)) (hw : Cond.classLink (mO μ) idx C ∈ lw_t2 ∧ (C = RX5 ∨ C = RX1 ∨ C = RX2)) (hx : x = (n : Int)) (hn : n ≤ 100000000)
    (k : E G μ (pc + 3) ls (vR (sN S) :: st) (shNew S t n n) (mNew I (sN S) 0) (mNew R (sN S) 0) Q) : E G μ pc ls (vI x :: st) S I R Q := by
  refine e_newC (fun h => vok_tl h) (by omega) (by omega) (fun p l e Rm s m args below meth c Hm locs cells slots lsM Z o4 hC hc hs kk => ?_) k
  have hts := hC.2.2.2.2.1
  have hxx : InR x := vok_hd o4
  have hcl : (Int32.ofInt x).toNatClampNeg = n := by rw [cl_of hxx, hx]; rfl
  have hov : va_AO C s := by
    obtain ⟨⟨-, w1, w2, w3, -⟩, -⟩ := hC.2.2.2.2.2.2.2.2.2.2.2.2.2.2.2.2
    rcases hw.2 with rfl | rfl | rfl
    · exact w1
    · exact w2
    · exact w3
  refine W.anew hC.1 hC.2.1 hC.2.2.2.1 (hts _ hw.1) (va_AO.use hov) rfl hd (n := Int32.ofInt x) rfl ?_ (by rw [hcl]; omega) hc (by rw [hcl]; exact hs) fun cA kA comp h1 h2 h3 h4 => ?_
  · intro h
    rw [Int32.lt_iff_toInt_lt, o32 hxx] at h
    have : x < 0 := h
    omega
  · rw [hcl]
    refine kk _ (by simp) (fun q hq => by rw [Array.getElem?_push, if_neg (Nat.ne_of_lt hq)]) ?_
    rw [cellE_ref G ht1, ← tys_eq hC.2.2.2.2.2.2.2.2.1 hC.2.2.2.2.2.2.2.2.2.1 hty h1]
    show (Array.push _ _)[Hm.size]? = some (vp_cell _ _)
    rw [Array.getElem?_push_size, arrV_new, vp_cell_q]
    rfl
end NW
