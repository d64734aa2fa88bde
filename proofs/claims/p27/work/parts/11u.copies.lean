/-! ===== THE WALK: bytes copied out of a constant of text, an array of bytes doubled ===== -/
def litF (j k : Nat) : Int := ((litByt.getD j []).getD k 0).toInt
theorem litF_rng : ∀ j, j < 6 → ∀ k, k < litLen.getD j 0 → 0 ≤ litF j k ∧ litF j k < 128 := by decide +kernel
section UC
variable {G : Gl} {μ μ' : MB} {pc pc2 : Nat} {ls ls2 : Lc} {st st2 as : List PV} {S S2 : Sh} {I I2 : MI} {R R2 : MR} {Q Q' : PQ} {idx ci f a n : Nat} {i x y : Int}
theorem e_copyL {j : Nat} {sp dp n : Int} (hj : j < 6) (hd : decode (mC μ) pc = .ok (.invokestatic idx, 3)) (hw : Cond.methodLink (mO μ) idx arraycopyName ∈ lw_t2 ∧ Cond.native arraycopyName ∈ lw_t2 ∧ Cond.static arraycopyName ∈ lw_t2 ∧ Cond.initialized "java/lang/System" ∈ lw_t2)
    (hk : 1 ≤ mK μ ∧ 40 ≤ mW μ) (hst : (st.map pcat).sum ≤ 8) (ht : sT S a = 22) (h1 : 0 ≤ sp) (h2 : 0 ≤ dp) (h3 : 0 ≤ n) (h4 : sp + n ≤ (litLen.getD j 0 : Int)) (h5 : dp + n ≤ (sL S a : Int))
    (k : E G μ (pc + 3) ls st S (up1 I a (va_cpy (litF j) (I a) sp.toNat dp.toNat n.toNat)) R Q) : E G μ pc ls (vI n :: vI dp :: vR a :: vI sp :: vO (j + 7) :: st) S I R Q := by
  refine e_step (Nat.le_refl _) (Nat.le_refl _) (fun o1 o2 o3 o4 => ⟨o1, ?_, o3, vok_tl (vok_tl (vok_tl (vok_tl (vok_tl o4))))⟩) ?_ k
  · intro b q
    by_cases hb : b = a
    · subst hb
      rw [up1_s]
      unfold va_cpy
      rw [ht]
      split
      · rename_i hq
        have := litF_rng j hj (sp.toNat + (q - dp.toNat)) (by omega)
        show -128 ≤ _ ∧ _ < 128
        omega
      · have := o2 b q
        rw [ht] at this
        exact this
    · rw [up1_n hb]; exact o2 b q
  intro p l e Rm s m args below meth c Hm locs cells slots lsM Z o1 o2 o3 o4 hC hc hs hF kk
  have hK := hC.2.2.2.2.2.2.2.2.1
  have hT := hC.2.2.2.2.2.2.2.2.2.1
  have hts := hC.2.2.2.2.1
  have in_n : InR n := vok_hd o4
  have in_d : InR dp := vok_hd (vok_tl o4)
  have in_s : InR sp := vok_hd (vok_tl (vok_tl (vok_tl o4)))
  obtain ⟨q1, q2, -⟩ := o1.2 a (by omega)
  have hw1 := wsOf_get G I R q1 q2
  rw [ht, cellE_int G (by omega) (by omega)] at hw1
  simp only [List.map_cons]
  rw [mv_ref G q1, show j + 7 = (j + 6) + 1 by omega, mv_lit (cx_old hC) (show j + 6 < 14 by omega) (by omega)]
  have neg : ∀ {z : Int}, InR z → 0 ≤ z → ¬ Int32.ofInt z < 0 := fun {z} hz h0 h => by
    rw [Int32.lt_iff_toInt_lt, o32 hz] at h
    have : z < 0 := h
    omega
  have hcs := cl_of in_s
  have hcd := cl_of in_d
  have hcn := cl_of in_n
  have hset := wsOf_set G (S := S) (I := I) (I' := up1 I a (va_cpy (litF j) (I a) sp.toNat dp.toNat n.toNat)) (R := R) (R' := R) q1 q2 (fun b hb => up1_n hb) (fun _ _ => rfl) (e := .inl (gC G 22, sL S a, .inl (fun q => Int32.ofInt (va_cpy (litF j) (I a) sp.toNat dp.toNat n.toNat q)))) (by rw [ht, cellE_int G (by omega) (by omega), up1_s])
  obtain ⟨scr, hs1, ⟨hs6, k0, hk0, cm0, hkk0⟩, hs3, hs4, -, hs5, hs7⟩ := ((cx_old hC).1.1 j hj).2.2.2
  have hc0 : Hm[gA G (j + 7)]? = some scr := by rw [hF.2.2.2.1 _ (Array.getElem?_eq_some_iff.mp hs1).1 hs7]; exact hs1
  have hc1 : Hm[gB G + (a - 1)]? = some (vp_cell (gC G 22) (sL S a, .inl (fun j => Int32.ofInt (I a j)))) := hF.2.1.1 _ _ hw1
  have htyp := gT_at (t := 22) hT rfl
  obtain ⟨-, k1, hk1, cm1, hkk1⟩ := (hK.2 _ _ htyp).1 (sL S a) (fun j => .int (Int32.ofInt (I a j)))
  have lf : ∀ q, Int32.ofInt (litF j q) = (litByt.getD j []).getD q 0 := fun q => Int32.ofInt_toInt _
  intro T hTm X
  obtain ⟨vm', X', step⟩ := X.arraycopy hC.1 hC.2.2.2.1 (hts _ hw.1) (hts _ hw.2.1) (hts _ hw.2.2.1) (hts _ hw.2.2.2) (src := gA G (j + 7)) (dst := gB G + (a - 1)) (cs := scr) (cd := vp_cell (gC G 22) (sL S a, .inl (fun j => Int32.ofInt (I a j)))) (srcPos := Int32.ofInt sp) (destPos := Int32.ofInt dp) (n := Int32.ofInt n) (by rw [hTm]; exact hc0) (by rw [hTm]; exact hc1)
    hs6 (fun _ h => by cases h) hs3 (fun h => by cases h) hk0 hk1 hkk0 hkk1 (by simp [refKind]) (neg in_s h1) (neg in_d h2) (neg in_n h3)
    (by rw [o32 in_s, o32 in_n]; omega)
    (by rw [o32 in_d, o32 in_n]; show ¬ _ > ((arrV (gC G 22) (sL S a) (fun j => .int (Int32.ofInt (I a j)))).slots.size : Int); rw [arrV_size]; omega)
    (fun vm₁ _ i hi => by
      rw [hcn] at hi
      have e : scr.slots.getD ((Int32.ofInt sp).toNatClampNeg + i) .null = .int (Int32.ofInt (litF j (sp.toNat + i))) := by
        rw [Array.getD_eq_getD_getElem?, hcs, hs5 _ (by omega), lf]
        rfl
      refine ⟨?_, ?_⟩
      · rw [e]
        have := litF_rng j hj (sp.toNat + i) (by omega)
        exact fits_b (by omega)
      · rw [e]; exact trivial)
    (g := F0 m pc lsM (.int (Int32.ofInt n) :: .int (Int32.ofInt dp) :: .ref (gB G + (a - 1)) :: .int (Int32.ofInt sp) :: .ref (gA G (j + 7)) :: st.map (mv G))) rfl (by rw [hC.2.2.1]; exact hF.1.1) (rest := st.map (mv G)) rfl (by rw [hC.2.1]; exact hd) (by have := hC.2.2.2.2.2.2.2.2.2.2.1; omega) (by
      have hr1 := hC.2.2.2.2.2.2.2.2.2.2.2.1
      have hr0 : ((st.map (mv G)).map fun v => v.category).sum = (st.map pcat).sum := by rw [List.map_map]; congr 1; exact List.map_congr_left (fun v _ => mv_cat G v)
      have hnw : nativeFrameWords "java/lang/System" "arraycopy" 5 + 11 ≤ 20 := by decide +kernel
      show 2 * 0 + _ + _ ≤ _
      omega)
  have e1 : copied scr (vp_cell (gC G 22) (sL S a, .inl (fun j => Int32.ofInt (I a j)))) (Int32.ofInt sp) (Int32.ofInt dp) (Int32.ofInt n) = vp_cell (gC G 22) (sL S a, .inl (fun q => Int32.ofInt (va_cpy (litF j) (I a) sp.toNat dp.toNat n.toNat q))) := by
    have := va_copiedX (fun z => .int z) scr (gC G 22) (n1 := sL S a) (n0 := litLen.getD j 0) (sp := (Int32.ofInt sp).toNatClampNeg) (dp := (Int32.ofInt dp).toNatClampNeg) (n := (Int32.ofInt n).toNatClampNeg) (fun q => (litByt.getD j []).getD q 0) (fun j => Int32.ofInt (I a j)) hs5 (by rw [hcs, hcn]; omega)
    refine Eq.trans this ?_
    rw [hcs, hcd, hcn, vp_cell_i]
    refine congrArg (arrV _ _) (funext fun q => ?_)
    unfold va_cpy
    split
    · rw [lf]
    · rfl
  rw [e1] at X' step
  have hl : gB G + (a - 1) < Hm.size := (Array.getElem?_eq_some_iff.mp hc1).1
  generalize hnew : vp_cell (gC G 22) (sL S a, .inl (fun q => Int32.ofInt (va_cpy (litF j) (I a) sp.toNat dp.toNat n.toNat q))) = cnew at X' step
  have hheap : ((T.setVm vm').setCell (gB G + (a - 1)) cnew).heap = Hm.setIfInBounds (gB G + (a - 1)) cnew := by rw [← hTm]; rfl
  have oq : ∀ q : Nat, q ≠ gB G + (a - 1) → (Hm.setIfInBounds (gB G + (a - 1)) cnew)[q]? = Hm[q]? := fun q hq => by simp [Array.getElem?_setIfInBounds, Ne.symm hq]
  have hP := hF.2.1.1.set (wsOf_D G S I R) hw1 (e := .inl (gC G 22, sL S a, .inl (fun q => Int32.ofInt (va_cpy (litF j) (I a) sp.toNat dp.toNat n.toNat q)))) (H1 := Hm.setIfInBounds (gB G + (a - 1)) cnew) (by
    show (Hm.setIfInBounds _ _)[_]? = some (vp_cell _ _)
    rw [hnew]
    simp [Array.getElem?_setIfInBounds, hl]) oq
  rw [hset] at hP
  have hS2 : ∀ L : List Loc, (∀ q ∈ L, q.base = gB G + (a - 1)) → va_S (fun q => gB G ≤ q) s.heap (Hm.setIfInBounds (gB G + (a - 1)) cnew) (locs ++ L) := fun L hL => by
    refine ⟨by simp; exact hF.2.2.1, fun q g1 g2 => ?_, fun q hq => ?_⟩
    · rw [oq q (fun e => g2 (by rw [e]; show gB G ≤ gB G + (a - 1); omega))]
      exact hF.2.2.2.1 q g1 g2
    · rcases List.mem_append.mp hq with h | h
      · exact hF.2.2.2.2 q h
      · rw [hL q h]; show gB G ≤ gB G + (a - 1); omega
  have fin : ∀ L : List Loc, (∀ q ∈ L, q.base = gB G + (a - 1)) → W p l e Rm s m args below meth c (Hm.setIfInBounds (gB G + (a - 1)) cnew) (locs ++ L) cells slots Z (F0 m (pc + 3) lsM (st.map (mv G))) := fun L hL => by
    have := kk _ _ lsM ⟨hF.1, ⟨hP, by simp; exact hF.2.1.2⟩, hS2 L hL⟩
    simpa using this
  obtain ⟨t, a1, b1⟩ := fin _ (by
    intro q hq
    obtain ⟨z, -, hz⟩ := List.mem_map.mp hq
    rw [← hz]) _ hheap X'
  exact ⟨t, step t a1, b1⟩
def mCl {α : Type} (f : Nat → Nat → α) (a b : Nat) : Nat → Nat → α := up1 f a (f b)
theorem e_clone {r : Nat} (hd : decode (mC μ) pc = .ok (.invokevirtual idx, 3)) (hw : Cond.methodLink (mO μ) idx ⟨"[B", "clone", "()Ljava/lang/Object;"⟩ ∈ lw_t2 ∧ Cond.sameMethod "[B" "java/lang/Object" "clone" "()Ljava/lang/Object;" ∈ lw_t2 ∧ Cond.native ⟨"java/lang/Object", "clone", "()Ljava/lang/Object;"⟩ ∈ lw_t2 ∧ Cond.instanceMethod ⟨"java/lang/Object", "clone", "()Ljava/lang/Object;"⟩ ∈ lw_t2 ∧
      Cond.selects "[B" ⟨"[B", "clone", "()Ljava/lang/Object;"⟩ ⟨"java/lang/Object", "clone", "()Ljava/lang/Object;"⟩ ∈ lw_t2 ∧ Cond.arrayClass .byte ∈ lw_t2) (hk : 1 ≤ mK μ ∧ 40 ≤ mW μ) (hst : (st.map pcat).sum ≤ 8) (ht : sT S r = 22)
    (k : E G μ (pc + 3) ls (vR (sN S) :: st) (shNew S 22 (sL S r) (sL S r)) (mCl I (sN S) r) (mNew R (sN S) 0) Q) : E G μ pc ls (vR r :: st) S I R Q := by
  refine e_step (by rw [sN_new]; omega) (by rw [sU_new]; omega) (fun o1 o2 o3 o4 => ⟨okS_new o1 (by omega) (o1.2 r (by omega)).2.2.2, fun b q => ?_, o3, vok_cons (v := vR _) trivial (vok_tl o4)⟩) ?_ k
  · rw [sT_new]
    unfold mCl up1
    by_cases hb : b = sN S
    · rw [if_pos hb, if_pos hb]
      have := o2 r q
      rw [ht] at this
      exact this
    · rw [if_neg hb, if_neg hb]
      exact o2 b q
  intro p l e Rm s m args below meth c Hm locs cells slots lsM Z o1 o2 o3 o4 hC hc hs hF kk
  rw [sN_new] at hc
  rw [sU_new] at hs
  have hsz := hF.2.1.2
  have hK := hC.2.2.2.2.2.2.2.2.1
  have hT := hC.2.2.2.2.2.2.2.2.2.1
  have hts := hC.2.2.2.2.1
  have hfr := hC.2.2.2.2.2.2.2.2.2.2.1
  have hlo := hC.2.2.2.2.2.2.2.2.2.2.2.1
  have hcs := cat_sum G hst
  obtain ⟨q1, q2, -⟩ := o1.2 r (by omega)
  have hw1 := wsOf_get G I R q1 q2
  rw [ht, cellE_int G (by omega) (by omega)] at hw1
  have htyp := gT_at (t := 22) hT rfl
  obtain ⟨cB, kB, compB, f1, f2, f3⟩ := Cond.arrayClass_spec (hts _ hw.2.2.2.2.2)
  have hcB : cB = gC G 22 := tys_eq (t := 22) hK hT rfl f1
  rw [hcB] at f1
  have hcl : va_Nw (.castable "[B" "java/lang/Cloneable") s := hC.2.2.2.2.2.2.2.2.2.2.2.2.2.2.2.2.1.2.2.2.2.2
  obtain ⟨c0, t0', g1, g2, g3⟩ := Cond.castable_spec (va_Nw.use (A := args) rfl hcl)
  cases (show s.vm.findClass "[B" = some (gC G 22) from f1).symm.trans g1
  have hcell : Hm[gB G + (r - 1)]? = some (vp_cell (gC G 22) (sL S r, .inl (fun j => Int32.ofInt (I r j)))) := hF.2.1.1 _ _ hw1
  rw [List.map_cons, mv_ref G q1]
  generalize hx : vp_cell (gC G 22) (sL S r, .inl (fun j => Int32.ofInt (I r j))) = cell at hcell
  have c1 : cell.cls = gC G 22 := by rw [← hx]; rfl
  have c2 : cell.vm = .none := by rw [← hx]; rfl
  have c3 : cell.slots.size = sL S r := by rw [← hx]; exact arrV_size _ _ _
  have c4 : ({ cls := cell.cls, slots := cell.slots } : Cell) = cell := by rw [← hx]; rfl
  intro T hTm X
  obtain ⟨-, kA, hkA, comp, hkind⟩ := State.isArrayOf_alike X.warmed.alike ((hK.2 _ _ htyp).1 0 (fun _ => .null))
  obtain ⟨-, kS, hkS, compS, hkindS⟩ := (hK.2 _ _ htyp).1 0 (fun _ => .null)
  obtain ⟨vm', X', stp⟩ := X.cloneArray hC.1 hC.2.2.2.1 (hts _ hw.1) (hts _ hw.2.1) (hts _ hw.2.2.1) (hts _ hw.2.2.2.1) (hts _ hw.2.2.2.2.1) (a := gB G + (r - 1)) (cell := cell) (by rw [hTm]; exact hcell) (fun k h => by rw [c2] at h; cases h) (by rw [c2]; exact fun h => by cases h) (by rw [c1]; exact f1) g2 (by rw [c1]; exact g3)
    (fun i v hv => by
      rw [c1]
      have hk' : T.vm.classes[gC G 22]? = some kA := hkA
      have hv2 : (arrV (gC G 22) (sL S r) (fun j => .int (Int32.ofInt (I r j)))).slots[i]? = some v := by rw [← hx] at hv; exact hv
      have hi : i < sL S r := by
        have := (Array.getElem?_eq_some_iff.mp hv2).1
        rwa [arrV_size] at this
      rw [arrV_read _ _ hi] at hv2
      have hb := o2 r i
      rw [ht] at hb
      have := fits_b hb
      rw [Option.some.inj hv2] at this
      simpa [State.fitsSlot, State.slotType?, hk', hkind] using this)
    (g := F0 m pc lsM (.ref (gB G + (r - 1)) :: st.map (mv G))) rfl (by rw [hC.2.2.1]; exact hF.1.1) rfl (by rw [hC.2.1]; exact hd) (by omega) (by show 2 * 0 + _ + 14 ≤ _; omega) (by omega) (by rw [c3]; omega) (hloader := by rw [c1]; exact Vm.clonesLoader_of_array hkS hkindS)
  rw [c4, c3] at X'
  generalize hH1 : Hm.push cell = H1
  have z1 : H1.size = Hm.size + 1 := by rw [← hH1, Array.size_push]
  have e1 : H1[Hm.size]? = some cell := by rw [← hH1, Array.getElem?_push_size]
  have oq : ∀ q : Nat, q < Hm.size → H1[q]? = Hm[q]? := fun q hq => by rw [← hH1, Array.getElem?_push, if_neg (Nat.ne_of_lt hq)]
  have hP : va_P (gD G) vwCl (wsOf G (shNew S 22 (sL S r) (sL S r)) (mCl I (sN S) r) (mNew R (sN S) 0)) H1 := by
    rw [wsOf_push G (S' := shNew S 22 (sL S r) (sL S r)) (I := I) (R := R) (I' := mCl I (sN S) r) (R' := mNew R (sN S) 0) o1.1 (sN_new _ _ _ _) (fun k hk => by rw [sT_new, up1_n (by omega)]) (fun k hk => by rw [sL_new, up1_n (by omega)]) (fun k hk => by unfold mCl; exact up1_n (by omega)) (fun k hk => by unfold mNew; exact up1_n (by omega))]
    refine (hF.2.1.1.kept (fun k q hk => oq q.1 (hF.2.1.1 k q hk).lt)).app (fun k q hq => ?_)
    have hz : k < 1 := (List.getElem?_eq_some_iff.mp hq).1
    rw [show k = 0 by omega] at hq
    cases hq
    rw [sT_new, sL_new, up1_s, up1_s, cellE_int G (by omega) (by omega), ← hsz]
    show H1[Hm.size]? = some (vp_cell _ _)
    rw [e1, ← hx]
    unfold mCl
    rw [up1_s]
  have hS2 : va_S (fun q => gB G ≤ q) s.heap H1 locs := ⟨by have := hF.2.2.1; omega, fun q h1 h2 => (oq q (Nat.lt_of_lt_of_le h1 hF.2.2.1)).trans (hF.2.2.2.1 q h1 h2), hF.2.2.2.2⟩
  have := kk H1 locs lsM ⟨hF.1, ⟨hP, by rw [sN_new, z1, hsz]; have := o1.1; omega⟩, hS2⟩
  rw [List.map_cons, mv_ref G o1.1, ← hsz, sN_new, sU_new] at this
  rw [show sN S + 1 - sN S = 1 by omega, show sU S + sL S r - sU S = sL S r by omega] at this
  obtain ⟨t, b1, b2⟩ := this ((T.setVm vm').pushCell cell) (by rw [← hH1, ← hTm]; rfl) X'
  refine ⟨t, stp t ?_, b2⟩
  rw [c4, hTm]
  exact b1
theorem e_castB {r : Nat} (hd : decode (mC μ) pc = .ok (.checkcast idx, 3)) (hw : Cond.classLink (mO μ) idx "[B" ∈ lw_t2 ∧ Cond.arrayClass .byte ∈ lw_t2) (ht : sT S r = 22) (k : E G μ (pc + 3) ls (vR r :: st) S I R Q) : E G μ pc ls (vR r :: st) S I R Q := by
  refine e_go (fun _ _ h => h) (fun p l e Rm s m args below meth c Hm locs cells slots lsM Z o1 _ _ _ hC hx hb hF kk => ?_) k
  obtain ⟨q1, q2, -⟩ := o1.2 r (by omega)
  have hw1 := wsOf_get G I R q1 q2
  rw [ht, cellE_int G (by omega) (by omega)] at hw1
  obtain ⟨cB, kB, compB, f1, f2, f3⟩ := Cond.arrayClass_spec (hC.2.2.2.2.1 _ hw.2)
  have hcB : cB = gC G 22 := tys_eq (t := 22) hC.2.2.2.2.2.2.2.2.1 hC.2.2.2.2.2.2.2.2.2.1 rfl f1
  rw [hcB] at f1
  rw [List.map_cons, mv_ref G q1] at kk ⊢
  exact va_castA hx hb hC.2.2.2.1 (hC.2.2.2.2.1 _ hw.1) hF.2.1.1 (r - 1) hw1 f1 hd kk
end UC
