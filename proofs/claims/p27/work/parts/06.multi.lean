/-! ===== THE WALK: rows of rows, copies ===== -/
theorem mu_outer (c : ClassId) (N h0 : Nat) : ∀ i : Nat, Jvm.Free.Multi.outerC c N h0 i = arrV c N (fun j => va_rf (if j < i then some (h0 + 1 + j) else none))
  | 0 => by
    show ({ cls := c, slots := Array.replicate N .null, vm := .none } : Cell) = _
    rw [arrV_new]
    refine congrArg (arrV c N) (funext fun j => ?_)
    simp [va_rf]
  | i + 1 => by
    show (Jvm.Free.Multi.outerC c N h0 i).setSlot i (.ref (h0 + 1 + i)) = _
    rw [mu_outer c N h0 i, arrV_store]
    refine congrArg (arrV c N) (funext fun j => ?_)
    by_cases e : j = i
    · subst e
      simp [updV, va_rf]
    · by_cases h : j < i
      · simp [updV, e, h, Nat.lt_succ_of_lt h]
      · simp [updV, e, h, show ¬ j < i + 1 by omega]
def shMul (S : Sh) (n k : Nat) : Sh := (sN S + 1 + n, sU S + (n + n * k), fun a => if a = sN S then 27 else if sN S < a ∧ a ≤ sN S + n then 21 else sT S a, fun a => if a = sN S then n else if sN S < a ∧ a ≤ sN S + n then k else sL S a)
def iMul (I : MI) (N n : Nat) : MI := fun a => if N ≤ a ∧ a ≤ N + n then (fun _ => 0) else I a
def rMul (R : MR) (N n : Nat) : MR := fun a => if a = N then (fun j => if j < n then N + 1 + j else 0) else if N < a ∧ a ≤ N + n then (fun _ => 0) else R a
theorem sN_mul (S : Sh) (n k : Nat) : sN (shMul S n k) = sN S + 1 + n := rfl
theorem sU_mul (S : Sh) (n k : Nat) : sU (shMul S n k) = sU S + (n + n * k) := rfl
theorem sT_mul (S : Sh) (n k a : Nat) : sT (shMul S n k) a = if a = sN S then 27 else if sN S < a ∧ a ≤ sN S + n then 21 else sT S a := rfl
theorem sL_mul (S : Sh) (n k a : Nat) : sL (shMul S n k) a = if a = sN S then n else if sN S < a ∧ a ≤ sN S + n then k else sL S a := rfl
section ML
variable {G : Gl} {μ : MB} {pc pc2 : Nat} {ls ls2 : Lc} {st st2 : List PV} {S S2 : Sh} {I I2 : MI} {R R2 : MR} {Q : PQ} {idx ci f a : Nat} {i x y : Int}
theorem e_mna {n k : Nat} (hd : decode (mC μ) pc = .ok (.multianewarray idx 2, 4)) (hw : Cond.classLink (mO μ) idx "[[I" ∈ lw_t2 ∧ Cond.arrayClass .int ∈ lw_t2) (hx : x = (n : Int)) (hy : y = (k : Int)) (hn : n ≤ 10000) (hk : k ≤ 10000)
    (kk : E G μ (pc + 4) ls (vR (sN S) :: st) (shMul S n k) (iMul I (sN S) n) (rMul R (sN S) n) Q) : E G μ pc ls (vI y :: vI x :: st) S I R Q := by
  refine e_step (by rw [sN_mul]; omega) (by rw [sU_mul]; omega) (fun o1 o2 o3 o4 => ⟨?_, ?_, o3, vok_cons (v := vR _) trivial (vok_tl (vok_tl o4))⟩) ?_ kk
  · refine ⟨by rw [sN_mul]; omega, fun a ha => ?_⟩
    have h0 := o1.1
    rw [sT_mul] at ha
    rw [sN_mul, sT_mul, sL_mul]
    by_cases e : a = sN S
    · subst e; simp only [if_true]; omega
    · rw [if_neg e] at ha
      rw [if_neg e, if_neg e]
      by_cases h : sN S < a ∧ a ≤ sN S + n
      · rw [if_pos h, if_pos h]; omega
      · rw [if_neg h] at ha
        rw [if_neg h, if_neg h]
        have := o1.2 a ha
        omega
  · intro a j
    rw [sT_mul]
    unfold iMul
    by_cases e : sN S ≤ a ∧ a ≤ sN S + n
    · rw [if_pos e]; exact irng0 _
    · rw [if_neg e, if_neg (by omega), if_neg (by omega)]; exact o2 a j
  intro p l e Rm s m args below meth c Hm locs cells slots lsM Z o1 o2 o3 o4 hC hc hs hF kk
  have hts := hC.2.2.2.2.1
  have hK := hC.2.2.2.2.2.2.2.2.1
  have hT := hC.2.2.2.2.2.2.2.2.2.1
  have hyy : InR y := vok_hd o4
  have hxx : InR x := vok_hd (vok_tl o4)
  have hclx : (Int32.ofInt x).toNatClampNeg = n := by rw [cl_of hxx, hx]; rfl
  have hcly : (Int32.ofInt y).toNatClampNeg = k := by rw [cl_of hyy, hy]; rfl
  have hn0 : ¬ Int32.ofInt x < 0 := by
    intro h
    rw [Int32.lt_iff_toInt_lt, o32 hxx] at h
    have : x < 0 := h
    omega
  have hk0 : ¬ Int32.ofInt y < 0 := by
    intro h
    rw [Int32.lt_iff_toInt_lt, o32 hyy] at h
    have : y < 0 := h
    omega
  rw [sN_mul] at hc
  rw [sU_mul] at hs
  have hsz := hF.2.1.2
  have hN1 := o1.1
  intro T hTm Xs
  obtain ⟨vm₁, cA, comp, -, fA, fC, hO, -, X', step⟩ := Xs.multianewarray2F (ty := .int) hC.1 hC.2.2.2.1 (hts _ hw.1) hC.2.2.2.2.2.2.2.2.2.2.2.2.2.2.2.2.1.2.2.2.2.1 (hts _ hw.2) (g := F0 m pc lsM (.int (Int32.ofInt y) :: .int (Int32.ofInt x) :: st.map (mv G))) rfl (by rw [hC.2.1]; exact hd) rfl hn0 hk0 (by rw [hclx]; omega) (by rw [hcly]; show k * 4 ≤ _; omega) (by rw [hcly]; omega) rfl rfl (by rw [hclx]; omega) (by rw [hclx, hcly]; omega)
  rw [hclx, hcly] at X' step
  have e27 : cA = gC G 27 := tys_eq (t := 27) hK hT rfl fA
  have e21 : comp = gC G 21 := tys_eq (t := 21) hK hT rfl fC
  subst e27; subst e21
  generalize hFl : Jvm.Free.Multi.fill (T.setVm vm₁) (gC G 27) (gC G 21) n k (defaultValue .int) n = F at X' step
  have hTh : (T.setVm vm₁).heap = Hm := hTm
  obtain ⟨f1, f2, -, -⟩ := Jvm.Free.Multi.fill_facts (T.setVm vm₁) (gC G 27) (gC G 21) n k (defaultValue .int) n
  rw [hFl, hTh] at f1 f2
  have hold : ∀ x : Nat, x < Hm.size → F.heap[x]? = Hm[x]? := fun x hx => by
    have := Jvm.Free.Multi.fill_old (T.setVm vm₁) (gC G 27) (gC G 21) n k (defaultValue .int) (a := x) (by rw [hTh]; exact hx) n
    rw [hFl, hTh] at this
    exact this
  have hrow : ∀ j : Nat, j < n → F.heap[Hm.size + 1 + j]? = some (vp_cell (gC G 21) (k, .inl (fun _ => Int32.ofInt 0))) := fun j hj => by
    have := Jvm.Free.Multi.fill_inner (T.setVm vm₁) (gC G 27) (gC G 21) n k (defaultValue .int) n j hj
    rw [hFl, hTh] at this
    rw [this, vp_cell_i]
    show some ({ cls := gC G 21, slots := Array.replicate k _, vm := .none } : Cell) = _
    rw [arrV_new]
    rfl
  rw [mu_outer] at f2
  have hP : va_P (gD G) vwCl (wsOf G (shMul S n k) (iMul I (sN S) n) (rMul R (sN S) n)) F.heap := by
    intro q z hz
    have hl := (List.getElem?_eq_some_iff.mp hz).1
    rw [wsOf_len, sN_mul] at hl
    have hg := wsOf_get G (S := shMul S n k) (iMul I (sN S) n) (rMul R (sN S) n) (a := q + 1) (by omega) (by rw [sN_mul]; omega)
    rw [Nat.add_sub_cancel, hz] at hg
    rw [Option.some.inj hg]
    by_cases h1 : q + 1 < sN S
    · have hw2 := wsOf_get G (S := S) I R (a := q + 1) (by omega) h1
      rw [Nat.add_sub_cancel] at hw2
      have h0 := hF.2.1.1 q _ hw2
      have hlt := h0.lt
      rw [sT_mul, sL_mul, if_neg (by omega), if_neg (by omega), if_neg (by omega), if_neg (by omega), show iMul I (sN S) n (q + 1) = I (q + 1) from if_neg (by omega), show rMul R (sN S) n (q + 1) = R (q + 1) by unfold rMul; rw [if_neg (by omega), if_neg (by omega)]]
      exact h0.kept (hold _ hlt)
    · by_cases h2 : q + 1 = sN S
      · rw [sT_mul, sL_mul, if_pos h2, if_pos h2, cellE_ref G (by omega)]
        show F.heap[gB G + q]? = some (vp_cell _ _)
        rw [vp_cell_q, show gB G + q = Hm.size by omega, f2]
        refine congrArg some (congrArg (arrV _ _) (funext fun j => congrArg va_rf ?_))
        unfold rMul
        rw [if_pos h2]
        by_cases hj : j < n
        · rw [if_pos hj, if_pos hj, show sN S + 1 + j = (sN S + j) + 1 by omega]
          show some _ = some _
          congr 1
          omega
        · rw [if_neg hj, if_neg hj]; rfl
      · rw [sT_mul, sL_mul, if_neg h2, if_neg h2, if_pos (by omega), if_pos (by omega), cellE_int G (by omega) (by omega), show iMul I (sN S) n (q + 1) = (fun _ => 0) from if_pos (by omega)]
        have := hrow (q - sN S) (by omega)
        rw [show Hm.size + 1 + (q - sN S) = gB G + q by omega] at this
        exact this
  have hS2 : va_S (fun q => gB G ≤ q) s.heap F.heap locs := ⟨by rw [f1]; have := hF.2.2.1; omega, fun q h1 h2 => (hold q (Nat.lt_of_lt_of_le h1 hF.2.2.1)).trans (hF.2.2.2.1 q h1 h2), hF.2.2.2.2⟩
  have := kk F.heap locs lsM ⟨hF.1, ⟨hP, by rw [f1, hsz, sN_mul]; omega⟩, hS2⟩
  rw [List.map_cons, mv_ref G hN1, sN_mul, sU_mul, show sN S + 1 + n - sN S = 1 + n by omega, show sU S + (n + n * k) - sU S = n + n * k by omega] at this
  obtain ⟨t, a1, b1⟩ := this F rfl (by rw [show cells + (1 + n) = cells + 1 + n by omega, show slots + (n + n * k) = slots + n + n * k by omega]; exact X')
  refine ⟨t, step t ?_, b1⟩
  have e9 : T.heap.size = gB G + (sN S - 1) := by rw [hTm, hsz]
  rw [e9]
  exact a1
theorem fits_b {x : Int} (h : -128 ≤ x ∧ x < 128) : fits .byte (.int (Int32.ofInt x)) = true := by
  have e : (Int32.ofInt x).toInt = x := o32 (by unfold InR; omega)
  show ((-128 : Int32) ≤ Int32.ofInt x && Int32.ofInt x ≤ (127 : Int32)) = true
  rw [Bool.and_eq_true, decide_eq_true_iff, decide_eq_true_iff, Int32.le_iff_toInt_le, Int32.le_iff_toInt_le, e]
  exact ⟨h.1, by show x ≤ 127; omega⟩
theorem e_copy {a0 : Nat} {sp dp n : Int} (hd : decode (mC μ) pc = .ok (.invokestatic idx, 3)) (hw : Cond.methodLink (mO μ) idx arraycopyName ∈ lw_t2 ∧ Cond.native arraycopyName ∈ lw_t2 ∧ Cond.static arraycopyName ∈ lw_t2 ∧ Cond.initialized "java/lang/System" ∈ lw_t2)
    (hk : 1 ≤ mK μ ∧ 40 ≤ mW μ) (hst : (st.map pcat).sum ≤ 8) (ht0 : sT S a0 = 21) (ht : sT S a = 21) (h1 : 0 ≤ sp) (h2 : 0 ≤ dp) (h3 : 0 ≤ n) (h4 : sp + n ≤ (sL S a0 : Int)) (h5 : dp + n ≤ (sL S a : Int))
    (k : E G μ (pc + 3) ls st S (up1 I a (va_cpy (I a0) (I a) sp.toNat dp.toNat n.toNat)) R Q) : E G μ pc ls (vI n :: vI dp :: vR a :: vI sp :: vR a0 :: st) S I R Q := by
  refine e_step (Nat.le_refl _) (Nat.le_refl _) (fun o1 o2 o3 o4 => ⟨o1, ?_, o3, vok_tl (vok_tl (vok_tl (vok_tl (vok_tl o4))))⟩) ?_ k
  · intro b j
    by_cases hb : b = a
    · subst hb
      rw [up1_s]
      unfold va_cpy
      have ha0 := o2 a0 (sp.toNat + (j - dp.toNat))
      rw [ht0] at ha0
      rw [ht]
      split
      · exact ha0
      · have := o2 b j
        rw [ht] at this
        exact this
    · rw [up1_n hb]; exact o2 b j
  intro p l e Rm s m args below meth c Hm locs cells slots lsM Z o1 o2 o3 o4 hC hc hs hF kk
  have hK := hC.2.2.2.2.2.2.2.2.1
  have hT := hC.2.2.2.2.2.2.2.2.2.1
  have hts := hC.2.2.2.2.1
  have in_n : InR n := vok_hd o4
  have in_d : InR dp := vok_hd (vok_tl o4)
  have in_s : InR sp := vok_hd (vok_tl (vok_tl (vok_tl o4)))
  obtain ⟨q1, q2, -⟩ := o1.2 a (by omega)
  obtain ⟨q3, q4, -⟩ := o1.2 a0 (by omega)
  have hw1 := wsOf_get G I R q1 q2
  rw [ht, cellE_int G (by omega) (by omega)] at hw1
  have hw0 := wsOf_get G I R q3 q4
  rw [ht0, cellE_int G (by omega) (by omega)] at hw0
  simp only [List.map_cons]
  rw [mv_ref G q1, mv_ref G q3]
  have neg : ∀ {z : Int}, InR z → 0 ≤ z → ¬ Int32.ofInt z < 0 := fun {z} hz h0 h => by
    rw [Int32.lt_iff_toInt_lt, o32 hz] at h
    have : z < 0 := h
    omega
  have hcs := cl_of in_s
  have hcd := cl_of in_d
  have hcn := cl_of in_n
  have hset := wsOf_set G (S := S) (I := I) (I' := up1 I a (va_cpy (I a0) (I a) sp.toNat dp.toNat n.toNat)) (R := R) (R' := R) q1 q2 (fun b hb => up1_n hb) (fun _ _ => rfl) (e := .inl (gC G 21, sL S a, .inl (fun j => Int32.ofInt (va_cpy (I a0) (I a) sp.toNat dp.toNat n.toNat j)))) (by rw [ht, cellE_int G (by omega) (by omega), up1_s])
  have hc0 : Hm[gB G + (a0 - 1)]? = some (vp_cell (gC G 21) (sL S a0, .inl (fun j => Int32.ofInt (I a0 j)))) := hF.2.1.1 _ _ hw0
  have hc1 : Hm[gB G + (a - 1)]? = some (vp_cell (gC G 21) (sL S a, .inl (fun j => Int32.ofInt (I a j)))) := hF.2.1.1 _ _ hw1
  have htyp := gT_at (t := 21) hT rfl
  obtain ⟨-, k0, hk0, cm0, hkk0⟩ := (hK.2 _ _ htyp).1 (sL S a0) (fun j => .int (Int32.ofInt (I a0 j)))
  obtain ⟨-, k1, hk1, cm1, hkk1⟩ := (hK.2 _ _ htyp).1 (sL S a) (fun j => .int (Int32.ofInt (I a j)))
  intro T hTm X
  obtain ⟨vm', X', step⟩ := X.arraycopy hC.1 hC.2.2.2.1 (hts _ hw.1) (hts _ hw.2.1) (hts _ hw.2.2.1) (hts _ hw.2.2.2) (src := gB G + (a0 - 1)) (dst := gB G + (a - 1)) (cs := vp_cell (gC G 21) (sL S a0, .inl (fun j => Int32.ofInt (I a0 j)))) (cd := vp_cell (gC G 21) (sL S a, .inl (fun j => Int32.ofInt (I a j)))) (srcPos := Int32.ofInt sp) (destPos := Int32.ofInt dp) (n := Int32.ofInt n) (by rw [hTm]; exact hc0) (by rw [hTm]; exact hc1)
    (fun _ h => by cases h) (fun _ h => by cases h) (fun h => by cases h) (fun h => by cases h) hk0 hk1 hkk0 hkk1 (by simp [refKind]) (neg in_s h1) (neg in_d h2) (neg in_n h3)
    (by rw [o32 in_s, o32 in_n]; show ¬ _ > ((arrV (gC G 21) (sL S a0) (fun j => .int (Int32.ofInt (I a0 j)))).slots.size : Int); rw [arrV_size]; omega)
    (by rw [o32 in_d, o32 in_n]; show ¬ _ > ((arrV (gC G 21) (sL S a) (fun j => .int (Int32.ofInt (I a j)))).slots.size : Int); rw [arrV_size]; omega)
    (fun vm₁ _ i hi => by
      rw [hcn] at hi
      have e : (vp_cell (gC G 21) (sL S a0, .inl (fun j => Int32.ofInt (I a0 j)))).slots.getD ((Int32.ofInt sp).toNatClampNeg + i) .null = .int (Int32.ofInt (I a0 (sp.toNat + i))) := by
        show (arrV (gC G 21) (sL S a0) (fun j => .int (Int32.ofInt (I a0 j)))).slots.getD _ _ = _
        rw [Array.getD_eq_getD_getElem?, hcs, arrV_read _ _ (by omega)]
        rfl
      refine ⟨?_, ?_⟩
      · rw [e]; rfl
      · rw [e]; exact trivial)
    (g := F0 m pc lsM (.int (Int32.ofInt n) :: .int (Int32.ofInt dp) :: .ref (gB G + (a - 1)) :: .int (Int32.ofInt sp) :: .ref (gB G + (a0 - 1)) :: st.map (mv G))) rfl (by rw [hC.2.2.1]; exact hF.1.1) (rest := st.map (mv G)) rfl (by rw [hC.2.1]; exact hd) (by have := hC.2.2.2.2.2.2.2.2.2.2.1; omega) (by
      have hr1 := hC.2.2.2.2.2.2.2.2.2.2.2.1
      have hr0 : ((st.map (mv G)).map fun v => v.category).sum = (st.map pcat).sum := by rw [List.map_map]; congr 1; exact List.map_congr_left (fun v _ => mv_cat G v)
      have hnw : nativeFrameWords "java/lang/System" "arraycopy" 5 + 11 ≤ 20 := by decide +kernel
      show 2 * 0 + _ + _ ≤ _
      omega)
  have e1 : copied (vp_cell (gC G 21) (sL S a0, .inl (fun j => Int32.ofInt (I a0 j)))) (vp_cell (gC G 21) (sL S a, .inl (fun j => Int32.ofInt (I a j)))) (Int32.ofInt sp) (Int32.ofInt dp) (Int32.ofInt n) = vp_cell (gC G 21) (sL S a, .inl (fun j => Int32.ofInt (va_cpy (I a0) (I a) sp.toNat dp.toNat n.toNat j))) := by
    have := va_copied (fun z => .int z) (gC G 21) (gC G 21) (n1 := sL S a) (n0 := sL S a0) (sp := (Int32.ofInt sp).toNatClampNeg) (dp := (Int32.ofInt dp).toNatClampNeg) (n := (Int32.ofInt n).toNatClampNeg) (fun j => Int32.ofInt (I a0 j)) (fun j => Int32.ofInt (I a j)) (by rw [hcs, hcn]; omega)
    refine Eq.trans (b := arrV (gC G 21) (sL S a) (fun j => .int (va_cpy (fun j => Int32.ofInt (I a0 j)) (fun j => Int32.ofInt (I a j)) (Int32.ofInt sp).toNatClampNeg (Int32.ofInt dp).toNatClampNeg (Int32.ofInt n).toNatClampNeg j))) this ?_
    rw [hcs, hcd, hcn, vp_cell_i]
    refine congrArg (arrV _ _) (funext fun q => ?_)
    unfold va_cpy
    split <;> rfl
  rw [e1] at X' step
  have hl : gB G + (a - 1) < Hm.size := (Array.getElem?_eq_some_iff.mp hc1).1
  generalize hnew : vp_cell (gC G 21) (sL S a, .inl (fun j => Int32.ofInt (va_cpy (I a0) (I a) sp.toNat dp.toNat n.toNat j))) = cnew at X' step
  have hheap : ((T.setVm vm').setCell (gB G + (a - 1)) cnew).heap = Hm.setIfInBounds (gB G + (a - 1)) cnew := by rw [← hTm]; rfl
  have oq : ∀ q : Nat, q ≠ gB G + (a - 1) → (Hm.setIfInBounds (gB G + (a - 1)) cnew)[q]? = Hm[q]? := fun q hq => by simp [Array.getElem?_setIfInBounds, Ne.symm hq]
  have hP := hF.2.1.1.set (wsOf_D G S I R) hw1 (e := .inl (gC G 21, sL S a, .inl (fun j => Int32.ofInt (va_cpy (I a0) (I a) sp.toNat dp.toNat n.toNat j)))) (H1 := Hm.setIfInBounds (gB G + (a - 1)) cnew) (by
    show (Hm.setIfInBounds _ _)[_]? = some (vp_cell _ _)
    rw [hnew]
    simp [Array.getElem?_setIfInBounds, hl]) oq
  rw [hset] at hP
  have hS2 : ∀ L : List Loc, (∀ q ∈ L, q.base = gB G + (a - 1)) → va_S (fun q => gB G ≤ q) s.heap (Hm.setIfInBounds (gB G + (a - 1)) cnew) (locs ++ L) := fun L hL => by
    refine ⟨by simp; exact hF.2.2.1, fun q g1 g2 => ?_, fun q hq => ?_⟩
    · rw [oq q (fun e => g2 (by rw [e]; show gB G ≤ gB G + (a - 1); omega))]
      exact hF.2.2.2.1 q g1 g2
    · rcases List.mem_append.mp hq with h | h
      · exact hF.2.2.2.2 q h
      · rw [hL q h]; show gB G ≤ gB G + (a - 1); omega
  have fin : ∀ L : List Loc, (∀ q ∈ L, q.base = gB G + (a - 1)) → W p l e Rm s m args below meth c (Hm.setIfInBounds (gB G + (a - 1)) cnew) (locs ++ L) cells slots Z (F0 m (pc + 3) lsM (st.map (mv G))) := fun L hL => by
    have := kk _ _ lsM ⟨hF.1, ⟨hP, by simp; exact hF.2.1.2⟩, hS2 L hL⟩
    simpa using this
  obtain ⟨t, a1, b1⟩ := fin _ (by
    intro q hq
    obtain ⟨z, -, hz⟩ := List.mem_map.mp hq
    rw [← hz]) _ hheap X'
  exact ⟨t, step t a1, b1⟩
theorem e_copyB {a0 : Nat} {sp dp n : Int} (hd : decode (mC μ) pc = .ok (.invokestatic idx, 3)) (hw : Cond.methodLink (mO μ) idx arraycopyName ∈ lw_t2 ∧ Cond.native arraycopyName ∈ lw_t2 ∧ Cond.static arraycopyName ∈ lw_t2 ∧ Cond.initialized "java/lang/System" ∈ lw_t2)
    (hk : 1 ≤ mK μ ∧ 40 ≤ mW μ) (hst : (st.map pcat).sum ≤ 8) (ht0 : sT S a0 = 22) (ht : sT S a = 22) (h1 : 0 ≤ sp) (h2 : 0 ≤ dp) (h3 : 0 ≤ n) (h4 : sp + n ≤ (sL S a0 : Int)) (h5 : dp + n ≤ (sL S a : Int))
    (k : E G μ (pc + 3) ls st S (up1 I a (va_cpy (I a0) (I a) sp.toNat dp.toNat n.toNat)) R Q) : E G μ pc ls (vI n :: vI dp :: vR a :: vI sp :: vR a0 :: st) S I R Q := by
  refine e_step (Nat.le_refl _) (Nat.le_refl _) (fun o1 o2 o3 o4 => ⟨o1, ?_, o3, vok_tl (vok_tl (vok_tl (vok_tl (vok_tl o4))))⟩) ?_ k
  · intro b j
    by_cases hb : b = a
    · subst hb
      rw [up1_s]
      unfold va_cpy
      have ha0 := o2 a0 (sp.toNat + (j - dp.toNat))
      rw [ht0] at ha0
      rw [ht]
      split
      · exact ha0
      · have := o2 b j
        rw [ht] at this
        exact this
    · rw [up1_n hb]; exact o2 b j
  intro p l e Rm s m args below meth c Hm locs cells slots lsM Z o1 o2 o3 o4 hC hc hs hF kk
  have hK := hC.2.2.2.2.2.2.2.2.1
  have hT := hC.2.2.2.2.2.2.2.2.2.1
  have hts := hC.2.2.2.2.1
  have in_n : InR n := vok_hd o4
  have in_d : InR dp := vok_hd (vok_tl o4)
  have in_s : InR sp := vok_hd (vok_tl (vok_tl (vok_tl o4)))
  obtain ⟨q1, q2, -⟩ := o1.2 a (by omega)
  obtain ⟨q3, q4, -⟩ := o1.2 a0 (by omega)
  have hw1 := wsOf_get G I R q1 q2
  rw [ht, cellE_int G (by omega) (by omega)] at hw1
  have hw0 := wsOf_get G I R q3 q4
  rw [ht0, cellE_int G (by omega) (by omega)] at hw0
  simp only [List.map_cons]
  rw [mv_ref G q1, mv_ref G q3]
  have neg : ∀ {z : Int}, InR z → 0 ≤ z → ¬ Int32.ofInt z < 0 := fun {z} hz h0 h => by
    rw [Int32.lt_iff_toInt_lt, o32 hz] at h
    have : z < 0 := h
    omega
  have hcs := cl_of in_s
  have hcd := cl_of in_d
  have hcn := cl_of in_n
  have hset := wsOf_set G (S := S) (I := I) (I' := up1 I a (va_cpy (I a0) (I a) sp.toNat dp.toNat n.toNat)) (R := R) (R' := R) q1 q2 (fun b hb => up1_n hb) (fun _ _ => rfl) (e := .inl (gC G 22, sL S a, .inl (fun j => Int32.ofInt (va_cpy (I a0) (I a) sp.toNat dp.toNat n.toNat j)))) (by rw [ht, cellE_int G (by omega) (by omega), up1_s])
  have hc0 : Hm[gB G + (a0 - 1)]? = some (vp_cell (gC G 22) (sL S a0, .inl (fun j => Int32.ofInt (I a0 j)))) := hF.2.1.1 _ _ hw0
  have hc1 : Hm[gB G + (a - 1)]? = some (vp_cell (gC G 22) (sL S a, .inl (fun j => Int32.ofInt (I a j)))) := hF.2.1.1 _ _ hw1
  have htyp := gT_at (t := 22) hT rfl
  obtain ⟨-, k0, hk0, cm0, hkk0⟩ := (hK.2 _ _ htyp).1 (sL S a0) (fun j => .int (Int32.ofInt (I a0 j)))
  obtain ⟨-, k1, hk1, cm1, hkk1⟩ := (hK.2 _ _ htyp).1 (sL S a) (fun j => .int (Int32.ofInt (I a j)))
  intro T hTm X
  obtain ⟨vm', X', step⟩ := X.arraycopy hC.1 hC.2.2.2.1 (hts _ hw.1) (hts _ hw.2.1) (hts _ hw.2.2.1) (hts _ hw.2.2.2) (src := gB G + (a0 - 1)) (dst := gB G + (a - 1)) (cs := vp_cell (gC G 22) (sL S a0, .inl (fun j => Int32.ofInt (I a0 j)))) (cd := vp_cell (gC G 22) (sL S a, .inl (fun j => Int32.ofInt (I a j)))) (srcPos := Int32.ofInt sp) (destPos := Int32.ofInt dp) (n := Int32.ofInt n) (by rw [hTm]; exact hc0) (by rw [hTm]; exact hc1)
    (fun _ h => by cases h) (fun _ h => by cases h) (fun h => by cases h) (fun h => by cases h) hk0 hk1 hkk0 hkk1 (by simp [refKind]) (neg in_s h1) (neg in_d h2) (neg in_n h3)
    (by rw [o32 in_s, o32 in_n]; show ¬ _ > ((arrV (gC G 22) (sL S a0) (fun j => .int (Int32.ofInt (I a0 j)))).slots.size : Int); rw [arrV_size]; omega)
    (by rw [o32 in_d, o32 in_n]; show ¬ _ > ((arrV (gC G 22) (sL S a) (fun j => .int (Int32.ofInt (I a j)))).slots.size : Int); rw [arrV_size]; omega)
    (fun vm₁ _ i hi => by
      rw [hcn] at hi
      have e : (vp_cell (gC G 22) (sL S a0, .inl (fun j => Int32.ofInt (I a0 j)))).slots.getD ((Int32.ofInt sp).toNatClampNeg + i) .null = .int (Int32.ofInt (I a0 (sp.toNat + i))) := by
        show (arrV (gC G 22) (sL S a0) (fun j => .int (Int32.ofInt (I a0 j)))).slots.getD _ _ = _
        rw [Array.getD_eq_getD_getElem?, hcs, arrV_read _ _ (by omega)]
        rfl
      refine ⟨?_, ?_⟩
      · rw [e]
        have h9 := o2 a0 (sp.toNat + i)
        rw [ht0] at h9
        exact fits_b h9
      · rw [e]; exact trivial)
    (g := F0 m pc lsM (.int (Int32.ofInt n) :: .int (Int32.ofInt dp) :: .ref (gB G + (a - 1)) :: .int (Int32.ofInt sp) :: .ref (gB G + (a0 - 1)) :: st.map (mv G))) rfl (by rw [hC.2.2.1]; exact hF.1.1) (rest := st.map (mv G)) rfl (by rw [hC.2.1]; exact hd) (by have := hC.2.2.2.2.2.2.2.2.2.2.1; omega) (by
      have hr1 := hC.2.2.2.2.2.2.2.2.2.2.2.1
      have hr0 : ((st.map (mv G)).map fun v => v.category).sum = (st.map pcat).sum := by rw [List.map_map]; congr 1; exact List.map_congr_left (fun v _ => mv_cat G v)
      have hnw : nativeFrameWords "java/lang/System" "arraycopy" 5 + 11 ≤ 20 := by decide +kernel
      show 2 * 0 + _ + _ ≤ _
      omega)
  have e1 : copied (vp_cell (gC G 22) (sL S a0, .inl (fun j => Int32.ofInt (I a0 j)))) (vp_cell (gC G 22) (sL S a, .inl (fun j => Int32.ofInt (I a j)))) (Int32.ofInt sp) (Int32.ofInt dp) (Int32.ofInt n) = vp_cell (gC G 22) (sL S a, .inl (fun j => Int32.ofInt (va_cpy (I a0) (I a) sp.toNat dp.toNat n.toNat j))) := by
    have := va_copied (fun z => .int z) (gC G 22) (gC G 22) (n1 := sL S a) (n0 := sL S a0) (sp := (Int32.ofInt sp).toNatClampNeg) (dp := (Int32.ofInt dp).toNatClampNeg) (n := (Int32.ofInt n).toNatClampNeg) (fun j => Int32.ofInt (I a0 j)) (fun j => Int32.ofInt (I a j)) (by rw [hcs, hcn]; omega)
    refine Eq.trans (b := arrV (gC G 22) (sL S a) (fun j => .int (va_cpy (fun j => Int32.ofInt (I a0 j)) (fun j => Int32.ofInt (I a j)) (Int32.ofInt sp).toNatClampNeg (Int32.ofInt dp).toNatClampNeg (Int32.ofInt n).toNatClampNeg j))) this ?_
    rw [hcs, hcd, hcn, vp_cell_i]
    refine congrArg (arrV _ _) (funext fun q => ?_)
    unfold va_cpy
    split <;> rfl
  rw [e1] at X' step
  have hl : gB G + (a - 1) < Hm.size := (Array.getElem?_eq_some_iff.mp hc1).1
  generalize hnew : vp_cell (gC G 22) (sL S a, .inl (fun j => Int32.ofInt (va_cpy (I a0) (I a) sp.toNat dp.toNat n.toNat j))) = cnew at X' step
  have hheap : ((T.setVm vm').setCell (gB G + (a - 1)) cnew).heap = Hm.setIfInBounds (gB G + (a - 1)) cnew := by rw [← hTm]; rfl
  have oq : ∀ q : Nat, q ≠ gB G + (a - 1) → (Hm.setIfInBounds (gB G + (a - 1)) cnew)[q]? = Hm[q]? := fun q hq => by simp [Array.getElem?_setIfInBounds, Ne.symm hq]
  have hP := hF.2.1.1.set (wsOf_D G S I R) hw1 (e := .inl (gC G 22, sL S a, .inl (fun j => Int32.ofInt (va_cpy (I a0) (I a) sp.toNat dp.toNat n.toNat j)))) (H1 := Hm.setIfInBounds (gB G + (a - 1)) cnew) (by
    show (Hm.setIfInBounds _ _)[_]? = some (vp_cell _ _)
    rw [hnew]
    simp [Array.getElem?_setIfInBounds, hl]) oq
  rw [hset] at hP
  have hS2 : ∀ L : List Loc, (∀ q ∈ L, q.base = gB G + (a - 1)) → va_S (fun q => gB G ≤ q) s.heap (Hm.setIfInBounds (gB G + (a - 1)) cnew) (locs ++ L) := fun L hL => by
    refine ⟨by simp; exact hF.2.2.1, fun q g1 g2 => ?_, fun q hq => ?_⟩
    · rw [oq q (fun e => g2 (by rw [e]; show gB G ≤ gB G + (a - 1); omega))]
      exact hF.2.2.2.1 q g1 g2
    · rcases List.mem_append.mp hq with h | h
      · exact hF.2.2.2.2 q h
      · rw [hL q h]; show gB G ≤ gB G + (a - 1); omega
  have fin : ∀ L : List Loc, (∀ q ∈ L, q.base = gB G + (a - 1)) → W p l e Rm s m args below meth c (Hm.setIfInBounds (gB G + (a - 1)) cnew) (locs ++ L) cells slots Z (F0 m (pc + 3) lsM (st.map (mv G))) := fun L hL => by
    have := kk _ _ lsM ⟨hF.1, ⟨hP, by simp; exact hF.2.1.2⟩, hS2 L hL⟩
    simpa using this
  obtain ⟨t, a1, b1⟩ := fin _ (by
    intro q hq
    obtain ⟨z, -, hz⟩ := List.mem_map.mp hq
    rw [← hz]) _ hheap X'
  exact ⟨t, step t a1, b1⟩
end ML
