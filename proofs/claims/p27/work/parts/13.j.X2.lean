set_option maxRecDepth 100000 in
set_option maxHeartbeats 4000000 in
theorem bX2_init {G : Gl} {S : Sh} {I : MI} {R : MR} {Q : Sh → MI → MR → Prop} {x0 : Nat} (h : (sT S x0 ≠ 0 ∧ (sT S x0 = 3 ∧ (∀ I6, I6 = up2 I x0 0 (-1) → (∀ S14 I14 R14, S14 = shMul S 120 120 → I14 = iMul I6 (sN S) 120 → R14 = rMul R (sN S) 120 → (sT S14 x0 = 3 ∧ (∀ R18, R18 = up2 R14 x0 1 (sN S) → (∀ S24 I24 R24, S24 = shNew S14 21 120 120 → I24 = mNew I14 (sN S14) 0 → R24 = mNew R18 (sN S14) 0 → (sT S24 x0 = 3 ∧ (∀ R26, R26 = up2 R24 x0 2 (sN S14) → (∀ S32 I32 R32, S32 = shNew S24 21 120 120 → I32 = mNew I24 (sN S24) 0 → R32 = mNew R26 (sN S24) 0 → (sT S32 x0 = 3 ∧ (∀ R34, R34 = up2 R32 x0 3 (sN S24) → Q S32 I32 R34))))))))))))) : CV G MX2_init [vR x0] S I R Q := by
  show E G MX2_init 0 [(0, vR x0)] [] S I R (qV Q)
  refine e_aload_n 0 dX2_init_0 rfl ?_
  have o1 := h.1
  replace h := h.2
  refine e_objI dX2_init_1 ⟨moX2_3, oc⟩ (by decide) (Nat.le_of_ble_eq_true rfl) o1 ?_
  refine e_aload_n 0 dX2_init_4 rfl ?_
  refine e_iconst dX2_init_5 (by unfold InR; decide) ?_
  have o2 := h.1
  replace h := h.2
  obtain ⟨I6, eI6⟩ : ∃ z : MI, z = up2 I x0 0 (-1) := ⟨_, rfl⟩
  replace h := h I6 eI6
  refine e_putI dX2_init_6 flX2_9 rfl (Or.inl rfl) o2 (eqI eI6 ?_)
  refine e_aload_n 0 dX2_init_9 rfl ?_
  refine e_bipush (x := 120) dX2_init_10 ⟨by decide +kernel, by unfold InR; decide⟩ ?_
  refine e_bipush (x := 120) dX2_init_12 ⟨by decide +kernel, by unfold InR; decide⟩ ?_
  obtain ⟨S14, eS14⟩ : ∃ z : Sh, z = shMul S 120 120 := ⟨_, rfl⟩
  obtain ⟨I14, eI14⟩ : ∃ z : MI, z = iMul I6 (sN S) 120 := ⟨_, rfl⟩
  obtain ⟨R14, eR14⟩ : ∃ z : MR, z = rMul R (sN S) 120 := ⟨_, rfl⟩
  replace h := h S14 I14 R14 eS14 eI14 eR14
  refine e_mna (n := 120) (k := 120) dX2_init_14 ⟨clX2_15, acint⟩ rfl rfl (by decide) (by decide) (eqS eS14 (eqI eI14 (eqR eR14 ?_)))
  have o3 := h.1
  replace h := h.2
  obtain ⟨R18, eR18⟩ : ∃ z : MR, z = up2 R14 x0 1 (sN S) := ⟨_, rfl⟩
  replace h := h R18 eR18
  refine e_putR dX2_init_18 flX2_17 rfl (Or.inr ⟨rfl, rfl, rfl⟩) o3 (eqR eR18 ?_)
  refine e_aload_n 0 dX2_init_21 rfl ?_
  refine e_bipush (x := 120) dX2_init_22 ⟨by decide +kernel, by unfold InR; decide⟩ ?_
  obtain ⟨S24, eS24⟩ : ∃ z : Sh, z = shNew S14 21 120 120 := ⟨_, rfl⟩
  obtain ⟨I24, eI24⟩ : ∃ z : MI, z = mNew I14 (sN S14) 0 := ⟨_, rfl⟩
  obtain ⟨R24, eR24⟩ : ∃ z : MR, z = mNew R18 (sN S14) 0 := ⟨_, rfl⟩
  replace h := h S24 I24 R24 eS24 eI24 eR24
  refine e_newa (t := 21) (n := 120) dX2_init_24 (Or.inl ⟨rfl, rfl⟩) acint rfl (by decide) (eqS eS24 (eqI eI24 (eqR eR24 ?_)))
  have o4 := h.1
  replace h := h.2
  obtain ⟨R26, eR26⟩ : ∃ z : MR, z = up2 R24 x0 2 (sN S14) := ⟨_, rfl⟩
  replace h := h R26 eR26
  refine e_putR dX2_init_26 flX2_20 rfl (Or.inr ⟨rfl, rfl, rfl⟩) o4 (eqR eR26 ?_)
  refine e_aload_n 0 dX2_init_29 rfl ?_
  refine e_bipush (x := 120) dX2_init_30 ⟨by decide +kernel, by unfold InR; decide⟩ ?_
  obtain ⟨S32, eS32⟩ : ∃ z : Sh, z = shNew S24 21 120 120 := ⟨_, rfl⟩
  obtain ⟨I32, eI32⟩ : ∃ z : MI, z = mNew I24 (sN S24) 0 := ⟨_, rfl⟩
  obtain ⟨R32, eR32⟩ : ∃ z : MR, z = mNew R26 (sN S24) 0 := ⟨_, rfl⟩
  replace h := h S32 I32 R32 eS32 eI32 eR32
  refine e_newa (t := 21) (n := 120) dX2_init_32 (Or.inl ⟨rfl, rfl⟩) acint rfl (by decide) (eqS eS32 (eqI eI32 (eqR eR32 ?_)))
  have o5 := h.1
  replace h := h.2
  obtain ⟨R34, eR34⟩ : ∃ z : MR, z = up2 R32 x0 3 (sN S24) := ⟨_, rfl⟩
  replace h := h R34 eR34
  refine e_putR dX2_init_34 flX2_24 rfl (Or.inr ⟨rfl, rfl, rfl⟩) o5 (eqR eR34 ?_)
  exact e_return dX2_init_37 rfl ⟨rfl, h⟩

def LX2_load_10 (G : Gl) (x0 : Nat) (x1 : Nat) (x2 : Nat) (x3 : Int) (S : Sh) (I : MI) (R : MR) (Q : Sh → MI → MR → Prop) : Prop := E G MX2_load 10 [(0, vR x0), (1, vR x1), (2, vR x2), (3, vI x3)] [] S I R (qV Q)
set_option maxRecDepth 100000 in
set_option maxHeartbeats 4000000 in
theorem bX2_load {G : Gl} {S : Sh} {I : MI} {R : MR} {Q : Sh → MI → MR → Prop} {x0 : Nat} {x1 : Nat} {x2 : Nat} (h : (sT S x0 = 3 ∧ (CV G MJ7_fill_53178 [vR (R x0 3), vI 0] S I R (fun S5 I5 R5 => LX2_load_10 G x0 x1 x2 0 S5 I5 R5 Q)))) : CV G MX2_load [vR x0, vR x1, vR x2] S I R Q := by
  show E G MX2_load 0 [(0, vR x0), (1, vR x1), (2, vR x2)] [] S I R (qV Q)
  refine e_aload_n 0 dX2_load_0 rfl ?_
  have o1 := h.1
  replace h := h.2
  refine e_getR dX2_load_1 flX2_24 rfl o1 ?_
  refine e_iconst dX2_load_4 (by unfold InR; decide) ?_
  refine i_SV (μ' := MJ7_fill_53178) (as := [vR (R x0 3), vI 0]) (st := []) rfl dX2_load_5 mOKJ7_fill_53178 ⟨mlX2_39, stJ7_fill_53178⟩ (by decide) (Nat.le_of_ble_eq_true rfl) rfl (Nat.le_of_ble_eq_true rfl) (CV.mono h ?_)
  clear h
  intro S5 I5 R5 h
  refine e_iconst dX2_load_8 (by unfold InR; decide) ?_
  refine e_istore_n (ls2 := [(3, vI 0), (0, vR x0), (1, vR x1), (2, vR x2)]) dX2_load_9 (by decide) rfl ?_
  exact e_sub (ls2 := [(0, vR x0), (1, vR x1), (2, vR x2), (3, vI 0)]) [1, 2, 3, 0] rfl h
set_option maxRecDepth 100000 in
set_option maxHeartbeats 4000000 in
theorem bX2_load_10 {G : Gl} {S : Sh} {I : MI} {R : MR} {Q : Sh → MI → MR → Prop} {x0 : Nat} {x1 : Nat} {x2 : Nat} {x3 : Int} (h : (sT S x1 = 5 ∧ (((I x1 2) ≤ x3 → Q S I R) ∧ (¬ ((I x1 2) ≤ x3) → (sT S (R x1 0) = 21 ∧ (((0 : Int) ≤ x3 ∧ x3 < (sL S (R x1 0) : Int)) ∧ (sT S x2 = 6 ∧ (CI G MX6_column [vR x2, vI (I (R x1 0) (Int.toNat x3))] S I R (fun S25 I25 R25 x25_ => ((x25_ < 0 → LX2_load_10 G x0 x1 x2 (w32 (x3 + 1)) S25 I25 R25 Q) ∧ (¬ (x25_ < 0) → ((120 ≤ x25_ → LX2_load_10 G x0 x1 x2 (w32 (x3 + 1)) S25 I25 R25 Q) ∧ (¬ (120 ≤ x25_) → (sT S25 x0 = 3 ∧ (sT S25 x1 = 5 ∧ (sT S25 (R25 x1 1) = 21 ∧ (((0 : Int) ≤ x3 ∧ x3 < (sL S25 (R25 x1 1) : Int)) ∧ (sT S25 (R25 x0 3) = 21 ∧ (((0 : Int) ≤ x25_ ∧ x25_ < (sL S25 (R25 x0 3) : Int)) ∧ (∀ I54, I54 = up2 I25 (R25 x0 3) (Int.toNat x25_) (I25 (R25 x1 1) (Int.toNat x3)) → LX2_load_10 G x0 x1 x2 (w32 (x3 + 1)) S25 I54 R25 Q)))))))))))))))))))) : LX2_load_10 G x0 x1 x2 x3 S I R Q := by
  show E G MX2_load 10 [(0, vR x0), (1, vR x1), (2, vR x2), (3, vI x3)] [] S I R (qV Q)
  refine e_iload_n 3 dX2_load_10 rfl ?_
  refine e_aload_n 1 dX2_load_11 rfl ?_
  have o2 := h.1
  replace h := h.2
  refine e_getI dX2_load_12 flX2_110 rfl o2 ?_
  refine e_icmp_ge (tgt := 61) dX2_load_15 (by decide) (fun c => ?_) (fun c => ?_)
  · replace h := h.1 c
    exact e_return dX2_load_61 rfl ⟨rfl, h⟩
  · replace h := h.2 c
    refine e_aload_n 2 dX2_load_18 rfl ?_
    refine e_aload_n 1 dX2_load_19 rfl ?_
    refine e_getR dX2_load_20 flX2_113 rfl o2 ?_
    refine e_iload_n 3 dX2_load_23 rfl ?_
    have o3 := h.1
    replace h := h.2
    have o4 := h.1
    replace h := h.2
    refine e_iald dX2_load_24 o3 o4 ?_
    have o5 := h.1
    replace h := h.2
    refine i_VI (μ' := MX6_column) (ci := 5) (r := x2) (as := [vI (I (R x1 0) (Int.toNat x3))]) (st := []) rfl dX2_load_25 mOKX6_column ⟨mlX2_114, imX6_column, seX6_column⟩ (by decide) (Nat.le_of_ble_eq_true rfl) rfl (Nat.le_of_ble_eq_true rfl) ⟨by decide, rfl⟩ o5 (CI.mono h ?_)
    clear h
    intro S25 I25 R25 x25_ h
    refine e_istore (ls2 := [(4, vI x25_), (0, vR x0), (1, vR x1), (2, vR x2), (3, vI x3)]) dX2_load_28 (by decide) rfl ?_
    refine e_iload 0 dX2_load_30 rfl ?_
    refine e_if_lt (tgt := 55) dX2_load_32 (by decide) (fun c => ?_) (fun c => ?_)
    · replace h := h.1 c
      refine e_iinc (ls2 := [(3, vI (w32 (x3 + 1))), (4, vI x25_), (0, vR x0), (1, vR x1), (2, vR x2)]) 4 dX2_load_55 rfl (by decide) rfl ?_
      refine e_goto (tgt := 10) dX2_load_58 (by decide) ?_
      exact e_sub (ls2 := [(0, vR x0), (1, vR x1), (2, vR x2), (3, vI (w32 (x3 + 1)))]) [2, 3, 4, 0] rfl h
    · replace h := h.2 c
      refine e_iload 0 dX2_load_35 rfl ?_
      refine e_bipush (x := 120) dX2_load_37 ⟨by decide +kernel, by unfold InR; decide⟩ ?_
      refine e_icmp_ge (tgt := 55) dX2_load_39 (by decide) (fun c => ?_) (fun c => ?_)
      · replace h := h.1 c
        refine e_iinc (ls2 := [(3, vI (w32 (x3 + 1))), (4, vI x25_), (0, vR x0), (1, vR x1), (2, vR x2)]) 4 dX2_load_55 rfl (by decide) rfl ?_
        refine e_goto (tgt := 10) dX2_load_58 (by decide) ?_
        exact e_sub (ls2 := [(0, vR x0), (1, vR x1), (2, vR x2), (3, vI (w32 (x3 + 1)))]) [2, 3, 4, 0] rfl h
      · replace h := h.2 c
        refine e_aload_n 1 dX2_load_42 rfl ?_
        have o6 := h.1
        replace h := h.2
        refine e_getR dX2_load_43 flX2_24 rfl o6 ?_
        refine e_iload 0 dX2_load_46 rfl ?_
        refine e_aload_n 2 dX2_load_48 rfl ?_
        have o7 := h.1
        replace h := h.2
        refine e_getR dX2_load_49 flX2_118 rfl o7 ?_
        refine e_iload_n 4 dX2_load_52 rfl ?_
        have o8 := h.1
        replace h := h.2
        have o9 := h.1
        replace h := h.2
        refine e_iald dX2_load_53 o8 o9 ?_
        have o10 := h.1
        replace h := h.2
        have o11 := h.1
        replace h := h.2
        obtain ⟨I54, eI54⟩ : ∃ z : MI, z = up2 I25 (R25 x0 3) (Int.toNat x25_) (I25 (R25 x1 1) (Int.toNat x3)) := ⟨_, rfl⟩
        replace h := h I54 eI54
        refine e_iast dX2_load_54 o10 o11 (eqI eI54 ?_)
        refine e_iinc (ls2 := [(3, vI (w32 (x3 + 1))), (4, vI x25_), (0, vR x0), (1, vR x1), (2, vR x2)]) 4 dX2_load_55 rfl (by decide) rfl ?_
        refine e_goto (tgt := 10) dX2_load_58 (by decide) ?_
        exact e_sub (ls2 := [(0, vR x0), (1, vR x1), (2, vR x2), (3, vI (w32 (x3 + 1)))]) [2, 3, 4, 0] rfl h

def LX2_loadProduct_11 (G : Gl) (x0 : Nat) (x1 : Nat) (x2 : Nat) (x3 : Int) (x4 : Int) (S : Sh) (I : MI) (R : MR) (Q : Sh → MI → MR → Prop) : Prop := E G MX2_loadProduct 11 [(0, vR x0), (1, vR x1), (2, vR x2), (3, vI x3), (4, vI x4)] [] S I R (qV Q)
set_option maxRecDepth 100000 in
set_option maxHeartbeats 4000000 in
theorem bX2_loadProduct {G : Gl} {S : Sh} {I : MI} {R : MR} {Q : Sh → MI → MR → Prop} {x0 : Nat} {x1 : Nat} {x2 : Nat} {x3 : Int} (h : (sT S x0 = 3 ∧ (CV G MJ7_fill_53178 [vR (R x0 3), vI 0] S I R (fun S5 I5 R5 => LX2_loadProduct_11 G x0 x1 x2 x3 0 S5 I5 R5 Q)))) : CV G MX2_loadProduct [vR x0, vR x1, vR x2, vI x3] S I R Q := by
  show E G MX2_loadProduct 0 [(0, vR x0), (1, vR x1), (2, vR x2), (3, vI x3)] [] S I R (qV Q)
  refine e_aload_n 0 dX2_loadProduct_0 rfl ?_
  have o1 := h.1
  replace h := h.2
  refine e_getR dX2_loadProduct_1 flX2_24 rfl o1 ?_
  refine e_iconst dX2_loadProduct_4 (by unfold InR; decide) ?_
  refine i_SV (μ' := MJ7_fill_53178) (as := [vR (R x0 3), vI 0]) (st := []) rfl dX2_loadProduct_5 mOKJ7_fill_53178 ⟨mlX2_39, stJ7_fill_53178⟩ (by decide) (Nat.le_of_ble_eq_true rfl) rfl (Nat.le_of_ble_eq_true rfl) (CV.mono h ?_)
  clear h
  intro S5 I5 R5 h
  refine e_iconst dX2_loadProduct_8 (by unfold InR; decide) ?_
  refine e_istore (ls2 := [(4, vI 0), (0, vR x0), (1, vR x1), (2, vR x2), (3, vI x3)]) dX2_loadProduct_9 (by decide) rfl ?_
  exact e_sub (ls2 := [(0, vR x0), (1, vR x1), (2, vR x2), (3, vI x3), (4, vI 0)]) [1, 2, 3, 4, 0] rfl h
set_option maxRecDepth 100000 in
set_option maxHeartbeats 4000000 in
theorem bX2_loadProduct_11 {G : Gl} {S : Sh} {I : MI} {R : MR} {Q : Sh → MI → MR → Prop} {x0 : Nat} {x1 : Nat} {x2 : Nat} {x3 : Int} {x4 : Int} (h : ((x3 ≤ x4 → Q S I R) ∧ (¬ (x3 ≤ x4) → (21 ≤ sT S x1 ∧ (((sL S x1 : Int) ≤ x4 → Q S I R) ∧ (¬ ((sL S x1 : Int) ≤ x4) → (21 ≤ sT S x2 ∧ (((sL S x2 : Int) ≤ x4 → Q S I R) ∧ (¬ ((sL S x2 : Int) ≤ x4) → (sT S x2 = 21 ∧ (((0 : Int) ≤ x4 ∧ x4 < (sL S x2 : Int)) ∧ (((I x2 (Int.toNat x4)) < 0 → LX2_loadProduct_11 G x0 x1 x2 x3 (w32 (x4 + 1)) S I R Q) ∧ (¬ ((I x2 (Int.toNat x4)) < 0) → ((120 ≤ (I x2 (Int.toNat x4)) → LX2_loadProduct_11 G x0 x1 x2 x3 (w32 (x4 + 1)) S I R Q) ∧ (¬ (120 ≤ (I x2 (Int.toNat x4))) → (sT S x0 = 3 ∧ (sT S x1 = 21 ∧ (((0 : Int) ≤ x4 ∧ x4 < (sL S x1 : Int)) ∧ (sT S (R x0 3) = 21 ∧ (((0 : Int) ≤ (I x2 (Int.toNat x4)) ∧ (I x2 (Int.toNat x4)) < (sL S (R x0 3) : Int)) ∧ (∀ I59, I59 = up2 I (R x0 3) (Int.toNat (I x2 (Int.toNat x4))) (I x1 (Int.toNat x4)) → LX2_loadProduct_11 G x0 x1 x2 x3 (w32 (x4 + 1)) S I59 R Q))))))))))))))))))))) : LX2_loadProduct_11 G x0 x1 x2 x3 x4 S I R Q := by
  show E G MX2_loadProduct 11 [(0, vR x0), (1, vR x1), (2, vR x2), (3, vI x3), (4, vI x4)] [] S I R (qV Q)
  refine e_iload 4 dX2_loadProduct_11 rfl ?_
  refine e_iload_n 3 dX2_loadProduct_13 rfl ?_
  refine e_icmp_ge (tgt := 66) dX2_loadProduct_14 (by decide) (fun c => ?_) (fun c => ?_)
  · replace h := h.1 c
    exact e_return dX2_loadProduct_66 rfl ⟨rfl, h⟩
  · replace h := h.2 c
    refine e_iload 4 dX2_loadProduct_17 rfl ?_
    refine e_aload_n 1 dX2_loadProduct_19 rfl ?_
    have o2 := h.1
    replace h := h.2
    refine e_alen dX2_loadProduct_20 o2 ?_
    refine e_icmp_ge (tgt := 66) dX2_loadProduct_21 (by decide) (fun c => ?_) (fun c => ?_)
    · replace h := h.1 c
      exact e_return dX2_loadProduct_66 rfl ⟨rfl, h⟩
    · replace h := h.2 c
      refine e_iload 4 dX2_loadProduct_24 rfl ?_
      refine e_aload_n 2 dX2_loadProduct_26 rfl ?_
      have o3 := h.1
      replace h := h.2
      refine e_alen dX2_loadProduct_27 o3 ?_
      refine e_icmp_ge (tgt := 66) dX2_loadProduct_28 (by decide) (fun c => ?_) (fun c => ?_)
      · replace h := h.1 c
        exact e_return dX2_loadProduct_66 rfl ⟨rfl, h⟩
      · replace h := h.2 c
        refine e_aload_n 2 dX2_loadProduct_31 rfl ?_
        refine e_iload 4 dX2_loadProduct_32 rfl ?_
        have o4 := h.1
        replace h := h.2
        have o5 := h.1
        replace h := h.2
        refine e_iald dX2_loadProduct_34 o4 o5 ?_
        refine e_istore (ls2 := [(5, vI (I x2 (Int.toNat x4))), (0, vR x0), (1, vR x1), (2, vR x2), (3, vI x3), (4, vI x4)]) dX2_loadProduct_35 (by decide) rfl ?_
        refine e_iload 0 dX2_loadProduct_37 rfl ?_
        refine e_if_lt (tgt := 60) dX2_loadProduct_39 (by decide) (fun c => ?_) (fun c => ?_)
        · replace h := h.1 c
          refine e_iinc (ls2 := [(4, vI (w32 (x4 + 1))), (5, vI (I x2 (Int.toNat x4))), (0, vR x0), (1, vR x1), (2, vR x2), (3, vI x3)]) 5 dX2_loadProduct_60 rfl (by decide) rfl ?_
          refine e_goto (tgt := 11) dX2_loadProduct_63 (by decide) ?_
          exact e_sub (ls2 := [(0, vR x0), (1, vR x1), (2, vR x2), (3, vI x3), (4, vI (w32 (x4 + 1)))]) [2, 3, 4, 5, 0] rfl h
        · replace h := h.2 c
          refine e_iload 0 dX2_loadProduct_42 rfl ?_
          refine e_bipush (x := 120) dX2_loadProduct_44 ⟨by decide +kernel, by unfold InR; decide⟩ ?_
          refine e_icmp_ge (tgt := 60) dX2_loadProduct_46 (by decide) (fun c => ?_) (fun c => ?_)
          · replace h := h.1 c
            refine e_iinc (ls2 := [(4, vI (w32 (x4 + 1))), (5, vI (I x2 (Int.toNat x4))), (0, vR x0), (1, vR x1), (2, vR x2), (3, vI x3)]) 5 dX2_loadProduct_60 rfl (by decide) rfl ?_
            refine e_goto (tgt := 11) dX2_loadProduct_63 (by decide) ?_
            exact e_sub (ls2 := [(0, vR x0), (1, vR x1), (2, vR x2), (3, vI x3), (4, vI (w32 (x4 + 1)))]) [2, 3, 4, 5, 0] rfl h
          · replace h := h.2 c
            refine e_aload_n 1 dX2_loadProduct_49 rfl ?_
            have o6 := h.1
            replace h := h.2
            refine e_getR dX2_loadProduct_50 flX2_24 rfl o6 ?_
            refine e_iload 0 dX2_loadProduct_53 rfl ?_
            refine e_aload_n 2 dX2_loadProduct_55 rfl ?_
            refine e_iload 5 dX2_loadProduct_56 rfl ?_
            have o7 := h.1
            replace h := h.2
            have o8 := h.1
            replace h := h.2
            refine e_iald dX2_loadProduct_58 o7 o8 ?_
            have o9 := h.1
            replace h := h.2
            have o10 := h.1
            replace h := h.2
            obtain ⟨I59, eI59⟩ : ∃ z : MI, z = up2 I (R x0 3) (Int.toNat (I x2 (Int.toNat x4))) (I x1 (Int.toNat x4)) := ⟨_, rfl⟩
            replace h := h I59 eI59
            refine e_iast dX2_loadProduct_59 o9 o10 (eqI eI59 ?_)
            refine e_iinc (ls2 := [(4, vI (w32 (x4 + 1))), (5, vI (I x2 (Int.toNat x4))), (0, vR x0), (1, vR x1), (2, vR x2), (3, vI x3)]) 5 dX2_loadProduct_60 rfl (by decide) rfl ?_
            refine e_goto (tgt := 11) dX2_loadProduct_63 (by decide) ?_
            exact e_sub (ls2 := [(0, vR x0), (1, vR x1), (2, vR x2), (3, vI x3), (4, vI (w32 (x4 + 1)))]) [2, 3, 4, 5, 0] rfl h

def LX2_storeRow_15 (G : Gl) (x0 : Nat) (x1 : Int) (x2 : Int) (x3 : Nat) (x4 : Int) (x5 : Int) (S : Sh) (I : MI) (R : MR) (Q : Sh → MI → MR → Prop) : Prop := E G MX2_storeRow 15 [(0, vR x0), (1, vI x1), (2, vI x2), (3, vR x3), (4, vI x4), (5, vI x5)] [] S I R (qV Q)
set_option maxRecDepth 100000 in
set_option maxHeartbeats 4000000 in
theorem bX2_storeRow {G : Gl} {S : Sh} {I : MI} {R : MR} {Q : Sh → MI → MR → Prop} {x0 : Nat} {x1 : Int} {x2 : Int} {x3 : Nat} (h : (sT S x0 = 3 ∧ (sT S (R x0 3) = 21 ∧ (((0 : Int) ≤ x1 ∧ x1 < (sL S (R x0 3) : Int)) ∧ (sT S x3 = 4 ∧ (CI G MX4_inverse [vR x3, vI (I (R x0 3) (Int.toNat x1))] S I R (fun S7 I7 R7 x7_ => LX2_storeRow_15 G x0 x1 x2 x3 x7_ x1 S7 I7 R7 Q))))))) : CV G MX2_storeRow [vR x0, vI x1, vI x2, vR x3] S I R Q := by
  show E G MX2_storeRow 0 [(0, vR x0), (1, vI x1), (2, vI x2), (3, vR x3)] [] S I R (qV Q)
  refine e_aload_n 3 dX2_storeRow_0 rfl ?_
  refine e_aload_n 0 dX2_storeRow_1 rfl ?_
  have o1 := h.1
  replace h := h.2
  refine e_getR dX2_storeRow_2 flX2_24 rfl o1 ?_
  refine e_iload_n 1 dX2_storeRow_5 rfl ?_
  have o2 := h.1
  replace h := h.2
  have o3 := h.1
  replace h := h.2
  refine e_iald dX2_storeRow_6 o2 o3 ?_
  have o4 := h.1
  replace h := h.2
  refine i_VI (μ' := MX4_inverse) (ci := 3) (r := x3) (as := [vI (I (R x0 3) (Int.toNat x1))]) (st := []) rfl dX2_storeRow_7 mOKX4_inverse ⟨mlX2_124, imX4_inverse, seX4_inverse⟩ (by decide) (Nat.le_of_ble_eq_true rfl) rfl (Nat.le_of_ble_eq_true rfl) ⟨by decide, rfl⟩ o4 (CI.mono h ?_)
  clear h
  intro S7 I7 R7 x7_ h
  refine e_istore (ls2 := [(4, vI x7_), (0, vR x0), (1, vI x1), (2, vI x2), (3, vR x3)]) dX2_storeRow_10 (by decide) rfl ?_
  refine e_iload_n 2 dX2_storeRow_12 rfl ?_
  refine e_istore (ls2 := [(5, vI x1), (4, vI x7_), (0, vR x0), (1, vI x1), (2, vI x2), (3, vR x3)]) dX2_storeRow_13 (by decide) rfl ?_
  exact e_sub (ls2 := [(0, vR x0), (1, vI x1), (2, vI x2), (3, vR x3), (4, vI x7_), (5, vI x1)]) [2, 3, 4, 5, 1, 0] rfl h
set_option maxRecDepth 100000 in
set_option maxHeartbeats 4000000 in
theorem bX2_storeRow_15 {G : Gl} {S : Sh} {I : MI} {R : MR} {Q : Sh → MI → MR → Prop} {x0 : Nat} {x1 : Int} {x2 : Int} {x3 : Nat} {x4 : Int} {x5 : Int} (h : ((x2 ≤ x5 → (sT S x0 = 3 ∧ (sT S (R x0 2) = 21 ∧ (((0 : Int) ≤ x1 ∧ x1 < (sL S (R x0 2) : Int)) ∧ (∀ I55, I55 = up2 I (R x0 2) (Int.toNat x1) 2 → Q S I55 R))))) ∧ (¬ (x2 ≤ x5) → (sT S x0 = 3 ∧ (sT S (R x0 1) = 27 ∧ (((0 : Int) ≤ x1 ∧ x1 < (sL S (R x0 1) : Int)) ∧ (sT S (R x0 3) = 21 ∧ (((0 : Int) ≤ x5 ∧ x5 < (sL S (R x0 3) : Int)) ∧ (sT S x3 = 4 ∧ ((pX4_times S I x3 (I (R x0 3) (Int.toNat x5)) x4) ∧ (sT S (R (R x0 1) (Int.toNat x1)) = 21 ∧ (((0 : Int) ≤ x5 ∧ x5 < (sL S (R (R x0 1) (Int.toNat x1)) : Int)) ∧ (∀ I42, I42 = up2 I (R (R x0 1) (Int.toNat x1)) (Int.toNat x5) (vX4_times I x3 (I (R x0 3) (Int.toNat x5)) x4) → LX2_storeRow_15 G x0 x1 x2 x3 x4 (w32 (x5 + 1)) S I42 R Q))))))))))))) : LX2_storeRow_15 G x0 x1 x2 x3 x4 x5 S I R Q := by
  show E G MX2_storeRow 15 [(0, vR x0), (1, vI x1), (2, vI x2), (3, vR x3), (4, vI x4), (5, vI x5)] [] S I R (qV Q)
  refine e_iload 5 dX2_storeRow_15 rfl ?_
  refine e_iload_n 2 dX2_storeRow_17 rfl ?_
  refine e_icmp_ge (tgt := 49) dX2_storeRow_18 (by decide) (fun c => ?_) (fun c => ?_)
  · replace h := h.1 c
    refine e_aload_n 0 dX2_storeRow_49 rfl ?_
    have o5 := h.1
    replace h := h.2
    refine e_getR dX2_storeRow_50 flX2_20 rfl o5 ?_
    refine e_iload_n 1 dX2_storeRow_53 rfl ?_
    refine e_iconst dX2_storeRow_54 (by unfold InR; decide) ?_
    have o6 := h.1
    replace h := h.2
    have o7 := h.1
    replace h := h.2
    obtain ⟨I55, eI55⟩ : ∃ z : MI, z = up2 I (R x0 2) (Int.toNat x1) 2 := ⟨_, rfl⟩
    replace h := h I55 eI55
    refine e_iast dX2_storeRow_55 o6 o7 (eqI eI55 ?_)
    exact e_return dX2_storeRow_56 rfl ⟨rfl, h⟩
  · replace h := h.2 c
    refine e_aload_n 0 dX2_storeRow_21 rfl ?_
    have o8 := h.1
    replace h := h.2
    refine e_getR dX2_storeRow_22 flX2_17 rfl o8 ?_
    refine e_iload_n 1 dX2_storeRow_25 rfl ?_
    have o9 := h.1
    replace h := h.2
    have o10 := h.1
    replace h := h.2
    refine e_aald (t := 27) dX2_storeRow_26 o9 (by decide) (by decide) o10 ?_
    refine e_iload 5 dX2_storeRow_27 rfl ?_
    refine e_aload_n 3 dX2_storeRow_29 rfl ?_
    refine e_aload_n 0 dX2_storeRow_30 rfl ?_
    refine e_getR dX2_storeRow_31 flX2_24 rfl o8 ?_
    refine e_iload 5 dX2_storeRow_34 rfl ?_
    have o11 := h.1
    replace h := h.2
    have o12 := h.1
    replace h := h.2
    refine e_iald dX2_storeRow_36 o11 o12 ?_
    refine e_iload 4 dX2_storeRow_37 rfl ?_
    have o13 := h.1
    replace h := h.2
    have o14 := h.1
    replace h := h.2
    refine i_VI (μ' := MX4_times) (ci := 3) (r := x3) (as := [vI (I (R x0 3) (Int.toNat x5)), vI x4]) (st := [vI x5, vR (R (R x0 1) (Int.toNat x1))]) rfl dX2_storeRow_39 mOKX4_times ⟨mlX2_129, imX4_times, seX4_times⟩ (by decide) (Nat.le_of_ble_eq_true rfl) rfl (Nat.le_of_ble_eq_true rfl) ⟨by decide, rfl⟩ o13 (sX4_times o14 ?_)
    have o15 := h.1
    replace h := h.2
    have o16 := h.1
    replace h := h.2
    obtain ⟨I42, eI42⟩ : ∃ z : MI, z = up2 I (R (R x0 1) (Int.toNat x1)) (Int.toNat x5) (vX4_times I x3 (I (R x0 3) (Int.toNat x5)) x4) := ⟨_, rfl⟩
    replace h := h I42 eI42
    refine e_iast dX2_storeRow_42 o15 o16 (eqI eI42 ?_)
    refine e_iinc (ls2 := [(5, vI (w32 (x5 + 1))), (0, vR x0), (1, vI x1), (2, vI x2), (3, vR x3), (4, vI x4)]) 5 dX2_storeRow_43 rfl (by decide) rfl ?_
    refine e_goto (tgt := 15) dX2_storeRow_46 (by decide) ?_
    exact e_sub (ls2 := [(0, vR x0), (1, vI x1), (2, vI x2), (3, vR x3), (4, vI x4), (5, vI (w32 (x5 + 1)))]) [1, 2, 3, 4, 5, 0] rfl h

def LX2_subtractRow_23 (G : Gl) (x0 : Nat) (x2 : Int) (x3 : Nat) (x4 : Nat) (x5 : Int) (x6 : Int) (S : Sh) (I : MI) (R : MR) (Q : Sh → MI → MR → Prop) : Prop := E G MX2_subtractRow 23 [(0, vR x0), (2, vI x2), (3, vR x3), (4, vR x4), (5, vI x5), (6, vI x6)] [] S I R (qV Q)
set_option maxRecDepth 100000 in
set_option maxHeartbeats 4000000 in
theorem bX2_subtractRow {G : Gl} {S : Sh} {I : MI} {R : MR} {Q : Sh → MI → MR → Prop} {x0 : Nat} {x1 : Int} {x2 : Int} {x3 : Nat} (h : (sT S x0 = 3 ∧ (sT S (R x0 1) = 27 ∧ (((0 : Int) ≤ x1 ∧ x1 < (sL S (R x0 1) : Int)) ∧ (sT S (R x0 3) = 21 ∧ (((0 : Int) ≤ x1 ∧ x1 < (sL S (R x0 3) : Int)) ∧ (sT S x3 = 4 ∧ ((pX4_negative S x3 (I (R x0 3) (Int.toNat x1))) ∧ LX2_subtractRow_23 G x0 x2 x3 (R (R x0 1) (Int.toNat x1)) (vX4_negative I x3 (I (R x0 3) (Int.toNat x1))) x1 S I R Q)))))))) : CV G MX2_subtractRow [vR x0, vI x1, vI x2, vR x3] S I R Q := by
  show E G MX2_subtractRow 0 [(0, vR x0), (1, vI x1), (2, vI x2), (3, vR x3)] [] S I R (qV Q)
  refine e_aload_n 0 dX2_subtractRow_0 rfl ?_
  have o1 := h.1
  replace h := h.2
  refine e_getR dX2_subtractRow_1 flX2_17 rfl o1 ?_
  refine e_iload_n 1 dX2_subtractRow_4 rfl ?_
  have o2 := h.1
  replace h := h.2
  have o3 := h.1
  replace h := h.2
  refine e_aald (t := 27) dX2_subtractRow_5 o2 (by decide) (by decide) o3 ?_
  refine e_astore (ls2 := [(4, vR (R (R x0 1) (Int.toNat x1))), (0, vR x0), (1, vI x1), (2, vI x2), (3, vR x3)]) dX2_subtractRow_6 (by decide) rfl ?_
  refine e_aload_n 4 dX2_subtractRow_8 rfl ?_
  refine e_aload_n 1 dX2_subtractRow_9 rfl ?_
  refine e_getR dX2_subtractRow_10 flX2_24 rfl o1 ?_
  refine e_iload_n 2 dX2_subtractRow_13 rfl ?_
  have o4 := h.1
  replace h := h.2
  have o5 := h.1
  replace h := h.2
  refine e_iald dX2_subtractRow_14 o4 o5 ?_
  have o6 := h.1
  replace h := h.2
  have o7 := h.1
  replace h := h.2
  refine i_VI (μ' := MX4_negative) (ci := 3) (r := x3) (as := [vI (I (R x0 3) (Int.toNat x1))]) (st := []) rfl dX2_subtractRow_15 mOKX4_negative ⟨mlX2_132, imX4_negative, seX4_negative⟩ (by decide) (Nat.le_of_ble_eq_true rfl) rfl (Nat.le_of_ble_eq_true rfl) ⟨by decide, rfl⟩ o6 (sX4_negative o7 ?_)
  refine e_istore (ls2 := [(5, vI (vX4_negative I x3 (I (R x0 3) (Int.toNat x1)))), (4, vR (R (R x0 1) (Int.toNat x1))), (0, vR x0), (1, vI x1), (2, vI x2), (3, vR x3)]) dX2_subtractRow_18 (by decide) rfl ?_
  refine e_iload_n 3 dX2_subtractRow_20 rfl ?_
  refine e_istore (ls2 := [(6, vI x1), (5, vI (vX4_negative I x3 (I (R x0 3) (Int.toNat x1)))), (4, vR (R (R x0 1) (Int.toNat x1))), (0, vR x0), (1, vI x1), (2, vI x2), (3, vR x3)]) dX2_subtractRow_21 (by decide) rfl ?_
  exact e_sub (ls2 := [(0, vR x0), (2, vI x2), (3, vR x3), (4, vR (R (R x0 1) (Int.toNat x1))), (5, vI (vX4_negative I x3 (I (R x0 3) (Int.toNat x1)))), (6, vI x1)]) [3, 5, 6, 2, 1, 0] rfl h
set_option maxRecDepth 100000 in
set_option maxHeartbeats 4000000 in
theorem bX2_subtractRow_23 {G : Gl} {S : Sh} {I : MI} {R : MR} {Q : Sh → MI → MR → Prop} {x0 : Nat} {x2 : Int} {x3 : Nat} {x4 : Nat} {x5 : Int} {x6 : Int} (h : ((x2 ≤ x6 → Q S I R) ∧ (¬ (x2 ≤ x6) → (sT S x4 = 21 ∧ (((0 : Int) ≤ x6 ∧ x6 < (sL S x4 : Int)) ∧ (((I x4 (Int.toNat x6)) = 0 → LX2_subtractRow_23 G x0 x2 x3 x4 x5 (w32 (x6 + 1)) S I R Q) ∧ (¬ ((I x4 (Int.toNat x6)) = 0) → (sT S x0 = 3 ∧ (sT S (R x0 3) = 21 ∧ (((0 : Int) ≤ x6 ∧ x6 < (sL S (R x0 3) : Int)) ∧ (sT S x3 = 4 ∧ ((pX4_plusTimes S I x3 (I (R x0 3) (Int.toNat x6)) x5 (I x4 (Int.toNat x6))) ∧ (∀ I61, I61 = up2 I (R x0 3) (Int.toNat x6) (vX4_plusTimes I x3 (I (R x0 3) (Int.toNat x6)) x5 (I x4 (Int.toNat x6))) → LX2_subtractRow_23 G x0 x2 x3 x4 x5 (w32 (x6 + 1)) S I61 R Q))))))))))))) : LX2_subtractRow_23 G x0 x2 x3 x4 x5 x6 S I R Q := by
  show E G MX2_subtractRow 23 [(0, vR x0), (2, vI x2), (3, vR x3), (4, vR x4), (5, vI x5), (6, vI x6)] [] S I R (qV Q)
  refine e_iload 5 dX2_subtractRow_23 rfl ?_
  refine e_iload_n 1 dX2_subtractRow_25 rfl ?_
  refine e_icmp_ge (tgt := 68) dX2_subtractRow_26 (by decide) (fun c => ?_) (fun c => ?_)
  · replace h := h.1 c
    exact e_return dX2_subtractRow_68 rfl ⟨rfl, h⟩
  · replace h := h.2 c
    refine e_aload 3 dX2_subtractRow_29 rfl ?_
    refine e_iload 5 dX2_subtractRow_31 rfl ?_
    have o8 := h.1
    replace h := h.2
    have o9 := h.1
    replace h := h.2
    refine e_iald dX2_subtractRow_33 o8 o9 ?_
    refine e_if_eq (tgt := 62) dX2_subtractRow_34 (by decide) (fun c => ?_) (fun c => ?_)
    · replace h := h.1 c
      refine e_iinc (ls2 := [(6, vI (w32 (x6 + 1))), (0, vR x0), (2, vI x2), (3, vR x3), (4, vR x4), (5, vI x5)]) 5 dX2_subtractRow_62 rfl (by decide) rfl ?_
      refine e_goto (tgt := 23) dX2_subtractRow_65 (by decide) ?_
      exact e_sub (ls2 := [(0, vR x0), (2, vI x2), (3, vR x3), (4, vR x4), (5, vI x5), (6, vI (w32 (x6 + 1)))]) [1, 2, 3, 4, 5, 0] rfl h
    · replace h := h.2 c
      refine e_aload_n 0 dX2_subtractRow_37 rfl ?_
      have o10 := h.1
      replace h := h.2
      refine e_getR dX2_subtractRow_38 flX2_24 rfl o10 ?_
      refine e_iload 5 dX2_subtractRow_41 rfl ?_
      refine e_aload_n 2 dX2_subtractRow_43 rfl ?_
      refine e_aload_n 0 dX2_subtractRow_44 rfl ?_
      refine e_getR dX2_subtractRow_45 flX2_24 rfl o10 ?_
      refine e_iload 5 dX2_subtractRow_48 rfl ?_
      have o11 := h.1
      replace h := h.2
      have o12 := h.1
      replace h := h.2
      refine e_iald dX2_subtractRow_50 o11 o12 ?_
      refine e_iload 4 dX2_subtractRow_51 rfl ?_
      refine e_aload 3 dX2_subtractRow_53 rfl ?_
      refine e_iload 5 dX2_subtractRow_55 rfl ?_
      refine e_iald dX2_subtractRow_57 o8 o9 ?_
      have o13 := h.1
      replace h := h.2
      have o14 := h.1
      replace h := h.2
      refine i_VI (μ' := MX4_plusTimes) (ci := 3) (r := x3) (as := [vI (I (R x0 3) (Int.toNat x6)), vI x5, vI (I x4 (Int.toNat x6))]) (st := [vI x6, vR (R x0 3)]) rfl dX2_subtractRow_58 mOKX4_plusTimes ⟨mlX2_135, imX4_plusTimes, seX4_plusTimes⟩ (by decide) (Nat.le_of_ble_eq_true rfl) rfl (Nat.le_of_ble_eq_true rfl) ⟨by decide, rfl⟩ o13 (sX4_plusTimes o14 ?_)
      obtain ⟨I61, eI61⟩ : ∃ z : MI, z = up2 I (R x0 3) (Int.toNat x6) (vX4_plusTimes I x3 (I (R x0 3) (Int.toNat x6)) x5 (I x4 (Int.toNat x6))) := ⟨_, rfl⟩
      replace h := h I61 eI61
      refine e_iast dX2_subtractRow_61 o11 o12 (eqI eI61 ?_)
      refine e_iinc (ls2 := [(6, vI (w32 (x6 + 1))), (0, vR x0), (2, vI x2), (3, vR x3), (4, vR x4), (5, vI x5)]) 5 dX2_subtractRow_62 rfl (by decide) rfl ?_
      refine e_goto (tgt := 23) dX2_subtractRow_65 (by decide) ?_
      exact e_sub (ls2 := [(0, vR x0), (2, vI x2), (3, vR x3), (4, vR x4), (5, vI x5), (6, vI (w32 (x6 + 1)))]) [1, 2, 3, 4, 5, 0] rfl h

def LX2_insertLine_2 (G : Gl) (x0 : Nat) (x1 : Int) (x2 : Nat) (x3 : Int) (S : Sh) (I : MI) (R : MR) (Q : Sh → MI → MR → Prop) : Prop := E G MX2_insertLine 2 [(0, vR x0), (1, vI x1), (2, vR x2), (3, vI x3)] [] S I R (qV Q)
def LX2_insertLine_33 (G : Gl) (x0 : Nat) (x1 : Int) (x2 : Nat) (x3 : Int) (S : Sh) (I : MI) (R : MR) (Q : Sh → MI → MR → Prop) : Prop := E G MX2_insertLine 33 [(0, vR x0), (1, vI x1), (2, vR x2), (3, vI x3)] [] S I R (qV Q)
set_option maxRecDepth 100000 in
set_option maxHeartbeats 4000000 in
theorem bX2_insertLine {G : Gl} {S : Sh} {I : MI} {R : MR} {Q : Sh → MI → MR → Prop} {x0 : Nat} {x1 : Int} {x2 : Nat} (h : LX2_insertLine_2 G x0 x1 x2 0 S I R Q) : CV G MX2_insertLine [vR x0, vI x1, vR x2] S I R Q := by
  show E G MX2_insertLine 0 [(0, vR x0), (1, vI x1), (2, vR x2)] [] S I R (qV Q)
  refine e_iconst dX2_insertLine_0 (by unfold InR; decide) ?_
  refine e_istore_n (ls2 := [(3, vI 0), (0, vR x0), (1, vI x1), (2, vR x2)]) dX2_insertLine_1 (by decide) rfl ?_
  exact e_sub (ls2 := [(0, vR x0), (1, vI x1), (2, vR x2), (3, vI 0)]) [1, 2, 3, 0] rfl h
set_option maxRecDepth 100000 in
set_option maxHeartbeats 4000000 in
theorem bX2_insertLine_2 {G : Gl} {S : Sh} {I : MI} {R : MR} {Q : Sh → MI → MR → Prop} {x0 : Nat} {x1 : Int} {x2 : Nat} {x3 : Int} (h : ((x1 ≤ x3 → Q S I R) ∧ (¬ (x1 ≤ x3) → (sT S x0 = 3 ∧ (sT S (R x0 3) = 21 ∧ (((0 : Int) ≤ x3 ∧ x3 < (sL S (R x0 3) : Int)) ∧ (((I (R x0 3) (Int.toNat x3)) = 0 → LX2_insertLine_33 G x0 x1 x2 x3 S I R Q) ∧ (¬ ((I (R x0 3) (Int.toNat x3)) = 0) → (sT S (R x0 2) = 21 ∧ (((0 : Int) ≤ x3 ∧ x3 < (sL S (R x0 2) : Int)) ∧ (((I (R x0 2) (Int.toNat x3)) ≠ 0 → LX2_insertLine_33 G x0 x1 x2 x3 S I R Q) ∧ (¬ ((I (R x0 2) (Int.toNat x3)) ≠ 0) → (CV G MX2_storeRow [vR x0, vI x3, vI x1, vR x2] S I R (fun S29 I29 R29 => Q S29 I29 R29)))))))))))))) : LX2_insertLine_2 G x0 x1 x2 x3 S I R Q := by
  show E G MX2_insertLine 2 [(0, vR x0), (1, vI x1), (2, vR x2), (3, vI x3)] [] S I R (qV Q)
  refine e_iload_n 3 dX2_insertLine_2 rfl ?_
  refine e_iload_n 1 dX2_insertLine_3 rfl ?_
  refine e_icmp_ge (tgt := 55) dX2_insertLine_4 (by decide) (fun c => ?_) (fun c => ?_)
  · replace h := h.1 c
    exact e_return dX2_insertLine_55 rfl ⟨rfl, h⟩
  · replace h := h.2 c
    refine e_aload_n 0 dX2_insertLine_7 rfl ?_
    have o1 := h.1
    replace h := h.2
    refine e_getR dX2_insertLine_8 flX2_24 rfl o1 ?_
    refine e_iload_n 3 dX2_insertLine_11 rfl ?_
    have o2 := h.1
    replace h := h.2
    have o3 := h.1
    replace h := h.2
    refine e_iald dX2_insertLine_12 o2 o3 ?_
    refine e_if_eq (tgt := 33) dX2_insertLine_13 (by decide) (fun c => ?_) (fun c => ?_)
    · replace h := h.1 c
      exact e_sub (ls2 := [(0, vR x0), (1, vI x1), (2, vR x2), (3, vI x3)]) [0, 1, 2, 3] rfl h
    · replace h := h.2 c
      refine e_aload_n 0 dX2_insertLine_16 rfl ?_
      refine e_getR dX2_insertLine_17 flX2_20 rfl o1 ?_
      refine e_iload_n 3 dX2_insertLine_20 rfl ?_
      have o4 := h.1
      replace h := h.2
      have o5 := h.1
      replace h := h.2
      refine e_iald dX2_insertLine_21 o4 o5 ?_
      refine e_if_ne (tgt := 33) dX2_insertLine_22 (by decide) (fun c => ?_) (fun c => ?_)
      · replace h := h.1 c
        exact e_sub (ls2 := [(0, vR x0), (1, vI x1), (2, vR x2), (3, vI x3)]) [0, 1, 2, 3] rfl h
      · replace h := h.2 c
        refine e_aload_n 0 dX2_insertLine_25 rfl ?_
        refine e_iload_n 3 dX2_insertLine_26 rfl ?_
        refine e_iload_n 1 dX2_insertLine_27 rfl ?_
        refine e_aload_n 2 dX2_insertLine_28 rfl ?_
        refine i_VV (μ' := MX2_storeRow) (ci := 2) (r := x0) (as := [vI x3, vI x1, vR x2]) (st := []) rfl dX2_insertLine_29 mOKX2_storeRow ⟨mlX2_121, imX2_storeRow, seX2_storeRow⟩ (by decide) (Nat.le_of_ble_eq_true rfl) rfl (Nat.le_of_ble_eq_true rfl) ⟨by decide, rfl⟩ o1 (CV.mono h ?_)
        clear h
        intro S29 I29 R29 h
        exact e_return dX2_insertLine_32 rfl ⟨rfl, h⟩
set_option maxRecDepth 100000 in
set_option maxHeartbeats 4000000 in
theorem bX2_insertLine_33 {G : Gl} {S : Sh} {I : MI} {R : MR} {Q : Sh → MI → MR → Prop} {x0 : Nat} {x1 : Int} {x2 : Nat} {x3 : Int} (h : (sT S x0 = 3 ∧ (sT S (R x0 3) = 21 ∧ (((0 : Int) ≤ x3 ∧ x3 < (sL S (R x0 3) : Int)) ∧ (((I (R x0 3) (Int.toNat x3)) = 0 → LX2_insertLine_2 G x0 x1 x2 (w32 (x3 + 1)) S I R Q) ∧ (¬ ((I (R x0 3) (Int.toNat x3)) = 0) → (CV G MX2_subtractRow [vR x0, vI x3, vI x1, vR x2] S I R (fun S46 I46 R46 => LX2_insertLine_2 G x0 x1 x2 (w32 (x3 + 1)) S46 I46 R46 Q)))))))) : LX2_insertLine_33 G x0 x1 x2 x3 S I R Q := by
  show E G MX2_insertLine 33 [(0, vR x0), (1, vI x1), (2, vR x2), (3, vI x3)] [] S I R (qV Q)
  refine e_aload_n 0 dX2_insertLine_33 rfl ?_
  have o6 := h.1
  replace h := h.2
  refine e_getR dX2_insertLine_34 flX2_24 rfl o6 ?_
  refine e_iload_n 3 dX2_insertLine_37 rfl ?_
  have o7 := h.1
  replace h := h.2
  have o8 := h.1
  replace h := h.2
  refine e_iald dX2_insertLine_38 o7 o8 ?_
  refine e_if_eq (tgt := 49) dX2_insertLine_39 (by decide) (fun c => ?_) (fun c => ?_)
  · replace h := h.1 c
    refine e_iinc (ls2 := [(3, vI (w32 (x3 + 1))), (0, vR x0), (1, vI x1), (2, vR x2)]) 3 dX2_insertLine_49 rfl (by decide) rfl ?_
    refine e_goto (tgt := 2) dX2_insertLine_52 (by decide) ?_
    exact e_sub (ls2 := [(0, vR x0), (1, vI x1), (2, vR x2), (3, vI (w32 (x3 + 1)))]) [1, 2, 3, 0] rfl h
  · replace h := h.2 c
    refine e_aload_n 0 dX2_insertLine_42 rfl ?_
    refine e_iload_n 3 dX2_insertLine_43 rfl ?_
    refine e_iload_n 1 dX2_insertLine_44 rfl ?_
    refine e_aload_n 2 dX2_insertLine_45 rfl ?_
    refine i_VV (μ' := MX2_subtractRow) (ci := 2) (r := x0) (as := [vI x3, vI x1, vR x2]) (st := []) rfl dX2_insertLine_46 mOKX2_subtractRow ⟨mlX2_100, imX2_subtractRow, seX2_subtractRow⟩ (by decide) (Nat.le_of_ble_eq_true rfl) rfl (Nat.le_of_ble_eq_true rfl) ⟨by decide, rfl⟩ o6 (CV.mono h ?_)
    clear h
    intro S46 I46 R46 h
    refine e_iinc (ls2 := [(3, vI (w32 (x3 + 1))), (0, vR x0), (1, vI x1), (2, vR x2)]) 3 dX2_insertLine_49 rfl (by decide) rfl ?_
    refine e_goto (tgt := 2) dX2_insertLine_52 (by decide) ?_
    exact e_sub (ls2 := [(0, vR x0), (1, vI x1), (2, vR x2), (3, vI (w32 (x3 + 1)))]) [1, 2, 3, 0] rfl h

set_option maxRecDepth 100000 in
set_option maxHeartbeats 4000000 in
theorem bX2_markNoCorner {G : Gl} {S : Sh} {I : MI} {R : MR} {Q : Sh → MI → MR → Prop} {x0 : Nat} {x1 : Int} (h : ((x1 < 0 → Q S I R) ∧ (¬ (x1 < 0) → ((120 ≤ x1 → Q S I R) ∧ (¬ (120 ≤ x1) → (sT S x0 = 3 ∧ (sT S (R x0 2) = 21 ∧ (((0 : Int) ≤ x1 ∧ x1 < (sL S (R x0 2) : Int)) ∧ (∀ I16, I16 = up2 I (R x0 2) (Int.toNat x1) 1 → Q S I16 R))))))))) : CV G MX2_markNoCorner [vR x0, vI x1] S I R Q := by
  show E G MX2_markNoCorner 0 [(0, vR x0), (1, vI x1)] [] S I R (qV Q)
  refine e_iload_n 1 dX2_markNoCorner_0 rfl ?_
  refine e_if_lt (tgt := 17) dX2_markNoCorner_1 (by decide) (fun c => ?_) (fun c => ?_)
  · replace h := h.1 c
    exact e_return dX2_markNoCorner_17 rfl ⟨rfl, h⟩
  · replace h := h.2 c
    refine e_iload_n 1 dX2_markNoCorner_4 rfl ?_
    refine e_bipush (x := 120) dX2_markNoCorner_5 ⟨by decide +kernel, by unfold InR; decide⟩ ?_
    refine e_icmp_ge (tgt := 17) dX2_markNoCorner_7 (by decide) (fun c => ?_) (fun c => ?_)
    · replace h := h.1 c
      exact e_return dX2_markNoCorner_17 rfl ⟨rfl, h⟩
    · replace h := h.2 c
      refine e_aload_n 0 dX2_markNoCorner_10 rfl ?_
      have o1 := h.1
      replace h := h.2
      refine e_getR dX2_markNoCorner_11 flX2_20 rfl o1 ?_
      refine e_iload_n 1 dX2_markNoCorner_14 rfl ?_
      refine e_iconst dX2_markNoCorner_15 (by unfold InR; decide) ?_
      have o2 := h.1
      replace h := h.2
      have o3 := h.1
      replace h := h.2
      obtain ⟨I16, eI16⟩ : ∃ z : MI, z = up2 I (R x0 2) (Int.toNat x1) 1 := ⟨_, rfl⟩
      replace h := h I16 eI16
      refine e_iast dX2_markNoCorner_16 o2 o3 (eqI eI16 ?_)
      exact e_return dX2_markNoCorner_17 rfl ⟨rfl, h⟩

def LX2_build_22 (G : Gl) (x0 : Nat) (x1 : Nat) (x2 : Int) (x3 : Nat) (x4 : Int) (x5 : Int) (S : Sh) (I : MI) (R : MR) (Q : Sh → MI → MR → Prop) : Prop := E G MX2_build 22 [(0, vR x0), (1, vR x1), (2, vI x2), (3, vR x3), (4, vI x4), (5, vI x5)] [] S I R (qV Q)
def LX2_build_67 (G : Gl) (x0 : Nat) (x3 : Nat) (x4 : Int) (x5 : Int) (S : Sh) (I : MI) (R : MR) (Q : Sh → MI → MR → Prop) : Prop := E G MX2_build 67 [(0, vR x0), (3, vR x3), (4, vI x4), (5, vI x5)] [] S I R (qV Q)
def LX2_build_141 (G : Gl) (x0 : Nat) (x3 : Nat) (x4 : Int) (x5 : Int) (S : Sh) (I : MI) (R : MR) (Q : Sh → MI → MR → Prop) : Prop := E G MX2_build 141 [(0, vR x0), (3, vR x3), (4, vI x4), (5, vI x5)] [] S I R (qV Q)
def LX2_build_77 (G : Gl) (x0 : Nat) (x3 : Nat) (x4 : Int) (x5 : Int) (x6 : Int) (S : Sh) (I : MI) (R : MR) (Q : Sh → MI → MR → Prop) : Prop := E G MX2_build 77 [(0, vR x0), (3, vR x3), (4, vI x4), (5, vI x5), (6, vI x6)] [] S I R (qV Q)
def LX2_build_151 (G : Gl) (x0 : Nat) (x3 : Nat) (x4 : Int) (x5 : Int) (x6 : Int) (S : Sh) (I : MI) (R : MR) (Q : Sh → MI → MR → Prop) : Prop := E G MX2_build 151 [(0, vR x0), (3, vR x3), (4, vI x4), (5, vI x5), (6, vI x6)] [] S I R (qV Q)
set_option maxRecDepth 100000 in
set_option maxHeartbeats 4000000 in
theorem bX2_build {G : Gl} {S : Sh} {I : MI} {R : MR} {Q : Sh → MI → MR → Prop} {x0 : Nat} {x1 : Nat} {x2 : Int} {x3 : Nat} (h : (sT S x3 = 6 ∧ ((pX6_width S I R x3) ∧ (sT S x0 = 3 ∧ (CV G MJ7_fill_53178 [vR (R x0 2), vI 0] S I R (fun S16 I16 R16 => LX2_build_22 G x0 x1 x2 x3 (min (vX6_width I R x3) 120) 0 S16 I16 R16 Q)))))) : CV G MX2_build [vR x0, vR x1, vI x2, vR x3] S I R Q := by
  show E G MX2_build 0 [(0, vR x0), (1, vR x1), (2, vI x2), (3, vR x3)] [] S I R (qV Q)
  refine e_aload_n 3 dX2_build_0 rfl ?_
  have o1 := h.1
  replace h := h.2
  have o2 := h.1
  replace h := h.2
  refine i_VI (μ' := MX6_width) (ci := 5) (r := x3) (as := []) (st := []) rfl dX2_build_1 mOKX6_width ⟨mlX2_27, imX6_width, seX6_width⟩ (by decide) (Nat.le_of_ble_eq_true rfl) rfl (Nat.le_of_ble_eq_true rfl) ⟨by decide, rfl⟩ o1 (sX6_width o2 ?_)
  refine e_bipush (x := 120) dX2_build_4 ⟨by decide +kernel, by unfold InR; decide⟩ ?_
  refine e_mmin dX2_build_6 mmX2_33 mxmin (by decide) (Nat.le_of_ble_eq_true rfl) ?_
  refine e_istore (ls2 := [(4, vI (min (vX6_width I R x3) 120)), (0, vR x0), (1, vR x1), (2, vI x2), (3, vR x3)]) dX2_build_9 (by decide) rfl ?_
  refine e_aload_n 1 dX2_build_11 rfl ?_
  have o3 := h.1
  replace h := h.2
  refine e_getR dX2_build_12 flX2_20 rfl o3 ?_
  refine e_iconst dX2_build_15 (by unfold InR; decide) ?_
  refine i_SV (μ' := MJ7_fill_53178) (as := [vR (R x0 2), vI 0]) (st := []) rfl dX2_build_16 mOKJ7_fill_53178 ⟨mlX2_39, stJ7_fill_53178⟩ (by decide) (Nat.le_of_ble_eq_true rfl) rfl (Nat.le_of_ble_eq_true rfl) (CV.mono h ?_)
  clear h
  intro S16 I16 R16 h
  refine e_iconst dX2_build_19 (by unfold InR; decide) ?_
  refine e_istore (ls2 := [(5, vI 0), (4, vI (min (vX6_width I R x3) 120)), (0, vR x0), (1, vR x1), (2, vI x2), (3, vR x3)]) dX2_build_20 (by decide) rfl ?_
  exact e_sub (ls2 := [(0, vR x0), (1, vR x1), (2, vI x2), (3, vR x3), (4, vI (min (vX6_width I R x3) 120)), (5, vI 0)]) [2, 3, 4, 5, 1, 0] rfl h
set_option maxRecDepth 100000 in
set_option maxHeartbeats 4000000 in
theorem bX2_build_22 {G : Gl} {S : Sh} {I : MI} {R : MR} {Q : Sh → MI → MR → Prop} {x0 : Nat} {x1 : Nat} {x2 : Int} {x3 : Nat} {x4 : Int} {x5 : Int} (h : (21 ≤ sT S x1 ∧ (((sL S x1 : Int) ≤ x5 → LX2_build_67 G x0 x3 x4 0 S I R Q) ∧ (¬ ((sL S x1 : Int) ≤ x5) → (((iand (ishr x2 x5) 1) ≠ 1 → LX2_build_22 G x0 x1 x2 x3 x4 (w32 (x5 + 1)) S I R Q) ∧ (¬ ((iand (ishr x2 x5) 1) ≠ 1) → (sT S x1 = 24 ∧ (((0 : Int) ≤ x5 ∧ x5 < (sL S x1 : Int)) ∧ (sT S x0 = 3 ∧ (CV G MX2_load [vR x0, vR (R x1 (Int.toNat x5)), vR x3] S I R (fun S45 I45 R45 => (sT S45 x3 = 6 ∧ (sT S45 x0 = 3 ∧ (CV G MX2_insertLine [vR x0, vI x4, vR (R45 x3 1)] S45 I45 R45 (fun S55 I55 R55 => LX2_build_22 G x0 x1 x2 x3 x4 (w32 (x5 + 1)) S55 I55 R55 Q))))))))))))))) : LX2_build_22 G x0 x1 x2 x3 x4 x5 S I R Q := by
  show E G MX2_build 22 [(0, vR x0), (1, vR x1), (2, vI x2), (3, vR x3), (4, vI x4), (5, vI x5)] [] S I R (qV Q)
  refine e_iload 5 dX2_build_22 rfl ?_
  refine e_aload_n 1 dX2_build_24 rfl ?_
  have o4 := h.1
  replace h := h.2
  refine e_alen dX2_build_25 o4 ?_
  refine e_icmp_ge (tgt := 64) dX2_build_26 (by decide) (fun c => ?_) (fun c => ?_)
  · replace h := h.1 c
    refine e_iconst dX2_build_64 (by unfold InR; decide) ?_
    refine e_istore (ls2 := [(5, vI 0), (0, vR x0), (1, vR x1), (2, vI x2), (3, vR x3), (4, vI x4)]) dX2_build_65 (by decide) rfl ?_
    exact e_sub (ls2 := [(0, vR x0), (3, vR x3), (4, vI x4), (5, vI 0)]) [1, 4, 5, 0] rfl h
  · replace h := h.2 c
    refine e_iload_n 2 dX2_build_29 rfl ?_
    refine e_iload 5 dX2_build_30 rfl ?_
    refine e_ishr dX2_build_32 ?_
    refine e_iconst dX2_build_33 (by unfold InR; decide) ?_
    refine e_iand dX2_build_34 ?_
    refine e_iconst dX2_build_35 (by unfold InR; decide) ?_
    refine e_icmp_ne (tgt := 58) dX2_build_36 (by decide) (fun c => ?_) (fun c => ?_)
    · replace h := h.1 c
      refine e_iinc (ls2 := [(5, vI (w32 (x5 + 1))), (0, vR x0), (1, vR x1), (2, vI x2), (3, vR x3), (4, vI x4)]) 5 dX2_build_58 rfl (by decide) rfl ?_
      refine e_goto (tgt := 22) dX2_build_61 (by decide) ?_
      exact e_sub (ls2 := [(0, vR x0), (1, vR x1), (2, vI x2), (3, vR x3), (4, vI x4), (5, vI (w32 (x5 + 1)))]) [1, 2, 3, 4, 5, 0] rfl h
    · replace h := h.2 c
      refine e_aload_n 0 dX2_build_39 rfl ?_
      refine e_aload_n 1 dX2_build_40 rfl ?_
      refine e_iload 5 dX2_build_41 rfl ?_
      have o5 := h.1
      replace h := h.2
      have o6 := h.1
      replace h := h.2
      refine e_aald (t := 24) dX2_build_43 o5 (by decide) (by decide) o6 ?_
      refine e_aload_n 3 dX2_build_44 rfl ?_
      have o7 := h.1
      replace h := h.2
      refine i_VV (μ' := MX2_load) (ci := 2) (r := x0) (as := [vR (R x1 (Int.toNat x5)), vR x3]) (st := []) rfl dX2_build_45 mOKX2_load ⟨mlX2_45, imX2_load, seX2_load⟩ (by decide) (Nat.le_of_ble_eq_true rfl) rfl (Nat.le_of_ble_eq_true rfl) ⟨by decide, rfl⟩ o7 (CV.mono h ?_)
      clear h
      intro S45 I45 R45 h
      refine e_aload_n 0 dX2_build_48 rfl ?_
      refine e_iload 4 dX2_build_49 rfl ?_
      refine e_aload_n 3 dX2_build_51 rfl ?_
      have o8 := h.1
      replace h := h.2
      refine e_getR dX2_build_52 flX2_49 rfl o8 ?_
      have o9 := h.1
      replace h := h.2
      refine i_VV (μ' := MX2_insertLine) (ci := 2) (r := x0) (as := [vI x4, vR (R45 x3 1)]) (st := []) rfl dX2_build_55 mOKX2_insertLine ⟨mlX2_53, imX2_insertLine, seX2_insertLine⟩ (by decide) (Nat.le_of_ble_eq_true rfl) rfl (Nat.le_of_ble_eq_true rfl) ⟨by decide, rfl⟩ o9 (CV.mono h ?_)
      clear h
      intro S55 I55 R55 h
      refine e_iinc (ls2 := [(5, vI (w32 (x5 + 1))), (0, vR x0), (1, vR x1), (2, vI x2), (3, vR x3), (4, vI x4)]) 5 dX2_build_58 rfl (by decide) rfl ?_
      refine e_goto (tgt := 22) dX2_build_61 (by decide) ?_
      exact e_sub (ls2 := [(0, vR x0), (1, vR x1), (2, vI x2), (3, vR x3), (4, vI x4), (5, vI (w32 (x5 + 1)))]) [1, 2, 3, 4, 5, 0] rfl h
set_option maxRecDepth 100000 in
set_option maxHeartbeats 4000000 in
theorem bX2_build_67 {G : Gl} {S : Sh} {I : MI} {R : MR} {Q : Sh → MI → MR → Prop} {x0 : Nat} {x3 : Nat} {x4 : Int} {x5 : Int} (h : ((x4 ≤ x5 → LX2_build_141 G x0 x3 x4 0 S I R Q) ∧ (¬ (x4 ≤ x5) → LX2_build_77 G x0 x3 x4 x5 0 S I R Q))) : LX2_build_67 G x0 x3 x4 x5 S I R Q := by
  show E G MX2_build 67 [(0, vR x0), (3, vR x3), (4, vI x4), (5, vI x5)] [] S I R (qV Q)
  refine e_iload 3 dX2_build_67 rfl ?_
  refine e_iload 2 dX2_build_69 rfl ?_
  refine e_icmp_ge (tgt := 138) dX2_build_71 (by decide) (fun c => ?_) (fun c => ?_)
  · replace h := h.1 c
    refine e_iconst dX2_build_138 (by unfold InR; decide) ?_
    refine e_istore (ls2 := [(5, vI 0), (0, vR x0), (3, vR x3), (4, vI x4)]) dX2_build_139 (by decide) rfl ?_
    exact e_sub (ls2 := [(0, vR x0), (3, vR x3), (4, vI x4), (5, vI 0)]) [1, 2, 3, 0] rfl h
  · replace h := h.2 c
    refine e_iconst dX2_build_74 (by unfold InR; decide) ?_
    refine e_istore (ls2 := [(6, vI 0), (0, vR x0), (3, vR x3), (4, vI x4), (5, vI x5)]) dX2_build_75 (by decide) rfl ?_
    exact e_sub (ls2 := [(0, vR x0), (3, vR x3), (4, vI x4), (5, vI x5), (6, vI 0)]) [1, 2, 3, 4, 0] rfl h
set_option maxRecDepth 100000 in
set_option maxHeartbeats 4000000 in
theorem bX2_build_141 {G : Gl} {S : Sh} {I : MI} {R : MR} {Q : Sh → MI → MR → Prop} {x0 : Nat} {x3 : Nat} {x4 : Int} {x5 : Int} (h : ((x4 ≤ x5 → Q S I R) ∧ (¬ (x4 ≤ x5) → LX2_build_151 G x0 x3 x4 x5 0 S I R Q))) : LX2_build_141 G x0 x3 x4 x5 S I R Q := by
  show E G MX2_build 141 [(0, vR x0), (3, vR x3), (4, vI x4), (5, vI x5)] [] S I R (qV Q)
  refine e_iload 3 dX2_build_141 rfl ?_
  refine e_iload 2 dX2_build_143 rfl ?_
  refine e_icmp_ge (tgt := 196) dX2_build_145 (by decide) (fun c => ?_) (fun c => ?_)
  · replace h := h.1 c
    exact e_return dX2_build_196 rfl ⟨rfl, h⟩
  · replace h := h.2 c
    refine e_iconst dX2_build_148 (by unfold InR; decide) ?_
    refine e_istore (ls2 := [(6, vI 0), (0, vR x0), (3, vR x3), (4, vI x4), (5, vI x5)]) dX2_build_149 (by decide) rfl ?_
    exact e_sub (ls2 := [(0, vR x0), (3, vR x3), (4, vI x4), (5, vI x5), (6, vI 0)]) [1, 2, 3, 4, 0] rfl h
set_option maxRecDepth 100000 in
set_option maxHeartbeats 4000000 in
theorem bX2_build_77 {G : Gl} {S : Sh} {I : MI} {R : MR} {Q : Sh → MI → MR → Prop} {x0 : Nat} {x3 : Nat} {x4 : Int} {x5 : Int} {x6 : Int} (h : (sT S x3 = 6 ∧ (((I x3 0) ≤ x6 → LX2_build_67 G x0 x3 x4 (w32 (x5 + 1)) S I R Q) ∧ (¬ ((I x3 0) ≤ x6) → (sT S x0 = 3 ∧ (sT S (R x0 2) = 21 ∧ (((0 : Int) ≤ x5 ∧ x5 < (sL S (R x0 2) : Int)) ∧ (((I (R x0 2) (Int.toNat x5)) = 0 → LX2_build_67 G x0 x3 x4 (w32 (x5 + 1)) S I R Q) ∧ (¬ ((I (R x0 2) (Int.toNat x5)) = 0) → (sT S (R x0 1) = 27 ∧ (((0 : Int) ≤ x5 ∧ x5 < (sL S (R x0 1) : Int)) ∧ (sT S (R x3 5) = 27 ∧ (((0 : Int) ≤ x6 ∧ x6 < (sL S (R x3 5) : Int)) ∧ (CV G MX2_loadProduct [vR x0, vR (R (R x0 1) (Int.toNat x5)), vR (R (R x3 5) (Int.toNat x6)), vI x4] S I R (fun S113 I113 R113 => (sT S113 x3 = 6 ∧ (sT S113 x0 = 3 ∧ (CV G MX2_insertLine [vR x0, vI x4, vR (R113 x3 1)] S113 I113 R113 (fun S123 I123 R123 => LX2_build_77 G x0 x3 x4 x5 (w32 (x6 + 1)) S123 I123 R123 Q))))))))))))))))))) : LX2_build_77 G x0 x3 x4 x5 x6 S I R Q := by
  show E G MX2_build 77 [(0, vR x0), (3, vR x3), (4, vI x4), (5, vI x5), (6, vI x6)] [] S I R (qV Q)
  refine e_iload 4 dX2_build_77 rfl ?_
  refine e_aload_n 1 dX2_build_79 rfl ?_
  have o10 := h.1
  replace h := h.2
  refine e_getI dX2_build_80 flX2_57 rfl o10 ?_
  refine e_icmp_ge (tgt := 132) dX2_build_83 (by decide) (fun c => ?_) (fun c => ?_)
  · replace h := h.1 c
    refine e_iinc (ls2 := [(5, vI (w32 (x5 + 1))), (0, vR x0), (3, vR x3), (4, vI x4), (6, vI x6)]) 3 dX2_build_132 rfl (by decide) rfl ?_
    refine e_goto (tgt := 67) dX2_build_135 (by decide) ?_
    exact e_sub (ls2 := [(0, vR x0), (3, vR x3), (4, vI x4), (5, vI (w32 (x5 + 1)))]) [1, 2, 3, 0] rfl h
  · replace h := h.2 c
    refine e_aload_n 0 dX2_build_86 rfl ?_
    have o11 := h.1
    replace h := h.2
    refine e_getR dX2_build_87 flX2_20 rfl o11 ?_
    refine e_iload 3 dX2_build_90 rfl ?_
    have o12 := h.1
    replace h := h.2
    have o13 := h.1
    replace h := h.2
    refine e_iald dX2_build_92 o12 o13 ?_
    refine e_if_eq (tgt := 132) dX2_build_93 (by decide) (fun c => ?_) (fun c => ?_)
    · replace h := h.1 c
      refine e_iinc (ls2 := [(5, vI (w32 (x5 + 1))), (0, vR x0), (3, vR x3), (4, vI x4), (6, vI x6)]) 3 dX2_build_132 rfl (by decide) rfl ?_
      refine e_goto (tgt := 67) dX2_build_135 (by decide) ?_
      exact e_sub (ls2 := [(0, vR x0), (3, vR x3), (4, vI x4), (5, vI (w32 (x5 + 1)))]) [1, 2, 3, 0] rfl h
    · replace h := h.2 c
      refine e_aload_n 0 dX2_build_96 rfl ?_
      refine e_aload_n 0 dX2_build_97 rfl ?_
      refine e_getR dX2_build_98 flX2_17 rfl o11 ?_
      refine e_iload 3 dX2_build_101 rfl ?_
      have o14 := h.1
      replace h := h.2
      have o15 := h.1
      replace h := h.2
      refine e_aald (t := 27) dX2_build_103 o14 (by decide) (by decide) o15 ?_
      refine e_aload_n 1 dX2_build_104 rfl ?_
      refine e_getR dX2_build_105 flX2_60 rfl o10 ?_
      refine e_iload 4 dX2_build_108 rfl ?_
      have o16 := h.1
      replace h := h.2
      have o17 := h.1
      replace h := h.2
      refine e_aald (t := 27) dX2_build_110 o16 (by decide) (by decide) o17 ?_
      refine e_iload 2 dX2_build_111 rfl ?_
      refine i_VV (μ' := MX2_loadProduct) (ci := 2) (r := x0) (as := [vR (R (R x0 1) (Int.toNat x5)), vR (R (R x3 5) (Int.toNat x6)), vI x4]) (st := []) rfl dX2_build_113 mOKX2_loadProduct ⟨mlX2_63, imX2_loadProduct, seX2_loadProduct⟩ (by decide) (Nat.le_of_ble_eq_true rfl) rfl (Nat.le_of_ble_eq_true rfl) ⟨by decide, rfl⟩ o11 (CV.mono h ?_)
      clear h
      intro S113 I113 R113 h
      refine e_aload_n 0 dX2_build_116 rfl ?_
      refine e_iload 2 dX2_build_117 rfl ?_
      refine e_aload_n 1 dX2_build_119 rfl ?_
      have o18 := h.1
      replace h := h.2
      refine e_getR dX2_build_120 flX2_49 rfl o18 ?_
      have o19 := h.1
      replace h := h.2
      refine i_VV (μ' := MX2_insertLine) (ci := 2) (r := x0) (as := [vI x4, vR (R113 x3 1)]) (st := []) rfl dX2_build_123 mOKX2_insertLine ⟨mlX2_53, imX2_insertLine, seX2_insertLine⟩ (by decide) (Nat.le_of_ble_eq_true rfl) rfl (Nat.le_of_ble_eq_true rfl) ⟨by decide, rfl⟩ o19 (CV.mono h ?_)
      clear h
      intro S123 I123 R123 h
      refine e_iinc (ls2 := [(6, vI (w32 (x6 + 1))), (0, vR x0), (3, vR x3), (4, vI x4), (5, vI x5)]) 4 dX2_build_126 rfl (by decide) rfl ?_
      refine e_goto (tgt := 77) dX2_build_129 (by decide) ?_
      exact e_sub (ls2 := [(0, vR x0), (3, vR x3), (4, vI x4), (5, vI x5), (6, vI (w32 (x6 + 1)))]) [1, 2, 3, 4, 0] rfl h
set_option maxRecDepth 100000 in
set_option maxHeartbeats 4000000 in
theorem bX2_build_151 {G : Gl} {S : Sh} {I : MI} {R : MR} {Q : Sh → MI → MR → Prop} {x0 : Nat} {x3 : Nat} {x4 : Int} {x5 : Int} {x6 : Int} (h : (sT S x3 = 6 ∧ (((I x3 0) ≤ x6 → LX2_build_141 G x0 x3 x4 (w32 (x5 + 1)) S I R Q) ∧ (¬ ((I x3 0) ≤ x6) → (sT S x0 = 3 ∧ (sT S (R x0 2) = 21 ∧ (((0 : Int) ≤ x5 ∧ x5 < (sL S (R x0 2) : Int)) ∧ (((I (R x0 2) (Int.toNat x5)) = 0 → LX2_build_141 G x0 x3 x4 (w32 (x5 + 1)) S I R Q) ∧ (¬ ((I (R x0 2) (Int.toNat x5)) = 0) → (sT S (R x3 5) = 27 ∧ (((0 : Int) ≤ x6 ∧ x6 < (sL S (R x3 5) : Int)) ∧ (sT S (R (R x3 5) (Int.toNat x6)) = 21 ∧ (((0 : Int) ≤ x5 ∧ x5 < (sL S (R (R x3 5) (Int.toNat x6)) : Int)) ∧ (CV G MX2_markNoCorner [vR x0, vI (I (R (R x3 5) (Int.toNat x6)) (Int.toNat x5))] S I R (fun S181 I181 R181 => LX2_build_151 G x0 x3 x4 x5 (w32 (x6 + 1)) S181 I181 R181 Q))))))))))))))) : LX2_build_151 G x0 x3 x4 x5 x6 S I R Q := by
  show E G MX2_build 151 [(0, vR x0), (3, vR x3), (4, vI x4), (5, vI x5), (6, vI x6)] [] S I R (qV Q)
  refine e_iload 4 dX2_build_151 rfl ?_
  refine e_aload_n 1 dX2_build_153 rfl ?_
  have o20 := h.1
  replace h := h.2
  refine e_getI dX2_build_154 flX2_57 rfl o20 ?_
  refine e_icmp_ge (tgt := 190) dX2_build_157 (by decide) (fun c => ?_) (fun c => ?_)
  · replace h := h.1 c
    refine e_iinc (ls2 := [(5, vI (w32 (x5 + 1))), (0, vR x0), (3, vR x3), (4, vI x4), (6, vI x6)]) 3 dX2_build_190 rfl (by decide) rfl ?_
    refine e_goto (tgt := 141) dX2_build_193 (by decide) ?_
    exact e_sub (ls2 := [(0, vR x0), (3, vR x3), (4, vI x4), (5, vI (w32 (x5 + 1)))]) [1, 2, 3, 0] rfl h
  · replace h := h.2 c
    refine e_aload_n 0 dX2_build_160 rfl ?_
    have o21 := h.1
    replace h := h.2
    refine e_getR dX2_build_161 flX2_20 rfl o21 ?_
    refine e_iload 3 dX2_build_164 rfl ?_
    have o22 := h.1
    replace h := h.2
    have o23 := h.1
    replace h := h.2
    refine e_iald dX2_build_166 o22 o23 ?_
    refine e_if_eq (tgt := 190) dX2_build_167 (by decide) (fun c => ?_) (fun c => ?_)
    · replace h := h.1 c
      refine e_iinc (ls2 := [(5, vI (w32 (x5 + 1))), (0, vR x0), (3, vR x3), (4, vI x4), (6, vI x6)]) 3 dX2_build_190 rfl (by decide) rfl ?_
      refine e_goto (tgt := 141) dX2_build_193 (by decide) ?_
      exact e_sub (ls2 := [(0, vR x0), (3, vR x3), (4, vI x4), (5, vI (w32 (x5 + 1)))]) [1, 2, 3, 0] rfl h
    · replace h := h.2 c
      refine e_aload_n 0 dX2_build_170 rfl ?_
      refine e_aload_n 1 dX2_build_171 rfl ?_
      refine e_getR dX2_build_172 flX2_60 rfl o20 ?_
      refine e_iload 4 dX2_build_175 rfl ?_
      have o24 := h.1
      replace h := h.2
      have o25 := h.1
      replace h := h.2
      refine e_aald (t := 27) dX2_build_177 o24 (by decide) (by decide) o25 ?_
      refine e_iload 3 dX2_build_178 rfl ?_
      have o26 := h.1
      replace h := h.2
      have o27 := h.1
      replace h := h.2
      refine e_iald dX2_build_180 o26 o27 ?_
      refine i_VV (μ' := MX2_markNoCorner) (ci := 2) (r := x0) (as := [vI (I (R (R x3 5) (Int.toNat x6)) (Int.toNat x5))]) (st := []) rfl dX2_build_181 mOKX2_markNoCorner ⟨mlX2_67, imX2_markNoCorner, seX2_markNoCorner⟩ (by decide) (Nat.le_of_ble_eq_true rfl) rfl (Nat.le_of_ble_eq_true rfl) ⟨by decide, rfl⟩ o21 (CV.mono h ?_)
      clear h
      intro S181 I181 R181 h
      refine e_iinc (ls2 := [(6, vI (w32 (x6 + 1))), (0, vR x0), (3, vR x3), (4, vI x4), (5, vI x5)]) 4 dX2_build_184 rfl (by decide) rfl ?_
      refine e_goto (tgt := 151) dX2_build_187 (by decide) ?_
      exact e_sub (ls2 := [(0, vR x0), (3, vR x3), (4, vI x4), (5, vI x5), (6, vI (w32 (x6 + 1)))]) [1, 2, 3, 4, 0] rfl h

def vX2_isOf (I : MI) (R : MR) (x0 : Nat) (x1 : Int) (x2 : Int) : Int := (if (I (R x0 2) (Int.toNat x2)) ≠ x1 then 0 else 1)
def pX2_isOf (S : Sh) (R : MR) (x0 : Nat) (x1 : Int) (x2 : Int) : Prop := (sT S x0 = 3 ∧ (sT S (R x0 2) = 21 ∧ (((0 : Int) ≤ x2 ∧ x2 < (sL S (R x0 2) : Int)) ∧ True)))
set_option maxRecDepth 100000 in
set_option maxHeartbeats 4000000 in
theorem sX2_isOf {G : Gl} {S : Sh} {I : MI} {R : MR} {Q : Sh → MI → MR → Int → Prop} {x0 : Nat} {x1 : Int} {x2 : Int} (hp : pX2_isOf S R x0 x1 x2) (hq : Q S I R (vX2_isOf I R x0 x1 x2)) : CI G MX2_isOf [vR x0, vI x1, vI x2] S I R Q := by
  show E G MX2_isOf 0 [(0, vR x0), (1, vI x1), (2, vI x2)] [] S I R (qI Q)
  unfold vX2_isOf at hq
  unfold pX2_isOf at hp
  refine e_aload_n 0 dX2_isOf_0 rfl ?_
  have o1 := hp.1
  replace hp := hp.2
  refine e_getR dX2_isOf_1 flX2_20 rfl o1 ?_
  refine e_iload_n 2 dX2_isOf_4 rfl ?_
  have o2 := hp.1
  replace hp := hp.2
  have o3 := hp.1
  replace hp := hp.2
  refine e_iald dX2_isOf_5 o2 o3 ?_
  refine e_iload_n 1 dX2_isOf_6 rfl ?_
  refine e_icmp_ne (tgt := 14) dX2_isOf_7 (by decide) (fun c => ?_) (fun c => ?_)
  · rw [if_pos c] at hq
    refine e_iconst dX2_isOf_14 (by unfold InR; decide) ?_
    exact e_zreturn dX2_isOf_15 rfl (by decide) ⟨_, rfl, hq⟩
  · rw [if_neg c] at hq
    refine e_iconst dX2_isOf_10 (by unfold InR; decide) ?_
    refine e_goto (tgt := 15) dX2_isOf_11 (by decide) ?_
    exact e_zreturn dX2_isOf_15 rfl (by decide) ⟨_, rfl, hq⟩

def LX2_count_10 (G : Gl) (x0 : Nat) (x1 : Int) (x3 : Int) (x4 : Int) (x5 : Int) (S : Sh) (I : MI) (R : MR) (Q : Sh → MI → MR → Int → Prop) : Prop := E G MX2_count 10 [(0, vR x0), (1, vI x1), (3, vI x3), (4, vI x4), (5, vI x5)] [] S I R (qI Q)
set_option maxRecDepth 100000 in
set_option maxHeartbeats 4000000 in
theorem bX2_count {G : Gl} {S : Sh} {I : MI} {R : MR} {Q : Sh → MI → MR → Int → Prop} {x0 : Nat} {x1 : Int} {x2 : Int} {x3 : Int} (h : LX2_count_10 G x0 x1 x3 0 (max x2 0) S I R Q) : CI G MX2_count [vR x0, vI x1, vI x2, vI x3] S I R Q := by
  show E G MX2_count 0 [(0, vR x0), (1, vI x1), (2, vI x2), (3, vI x3)] [] S I R (qI Q)
  refine e_iconst dX2_count_0 (by unfold InR; decide) ?_
  refine e_istore (ls2 := [(4, vI 0), (0, vR x0), (1, vI x1), (2, vI x2), (3, vI x3)]) dX2_count_1 (by decide) rfl ?_
  refine e_iload_n 3 dX2_count_3 rfl ?_
  refine e_iconst dX2_count_4 (by unfold InR; decide) ?_
  refine e_mmax dX2_count_5 mmX2_71 mxmax (by decide) (Nat.le_of_ble_eq_true rfl) ?_
  refine e_istore (ls2 := [(5, vI (max x2 0)), (4, vI 0), (0, vR x0), (1, vI x1), (2, vI x2), (3, vI x3)]) dX2_count_8 (by decide) rfl ?_
  exact e_sub (ls2 := [(0, vR x0), (1, vI x1), (3, vI x3), (4, vI 0), (5, vI (max x2 0))]) [2, 3, 5, 1, 0] rfl h
set_option maxRecDepth 100000 in
set_option maxHeartbeats 4000000 in
theorem bX2_count_10 {G : Gl} {S : Sh} {I : MI} {R : MR} {Q : Sh → MI → MR → Int → Prop} {x0 : Nat} {x1 : Int} {x3 : Int} {x4 : Int} {x5 : Int} (h : ((x3 ≤ x5 → Q S I R x4) ∧ (¬ (x3 ≤ x5) → ((120 ≤ x5 → Q S I R x4) ∧ (¬ (120 ≤ x5) → (sT S x0 = 3 ∧ ((pX2_isOf S R x0 x1 x5) ∧ (((vX2_isOf I R x0 x1 x5) = 0 → LX2_count_10 G x0 x1 x3 x4 (w32 (x5 + 1)) S I R Q) ∧ (¬ ((vX2_isOf I R x0 x1 x5) = 0) → LX2_count_10 G x0 x1 x3 (w32 (x4 + 1)) (w32 (x5 + 1)) S I R Q))))))))) : LX2_count_10 G x0 x1 x3 x4 x5 S I R Q := by
  show E G MX2_count 10 [(0, vR x0), (1, vI x1), (3, vI x3), (4, vI x4), (5, vI x5)] [] S I R (qI Q)
  refine e_iload 4 dX2_count_10 rfl ?_
  refine e_iload_n 2 dX2_count_12 rfl ?_
  refine e_icmp_ge (tgt := 42) dX2_count_13 (by decide) (fun c => ?_) (fun c => ?_)
  · replace h := h.1 c
    refine e_iload 3 dX2_count_42 rfl ?_
    exact e_ireturn dX2_count_44 rfl ⟨_, rfl, h⟩
  · replace h := h.2 c
    refine e_iload 4 dX2_count_16 rfl ?_
    refine e_bipush (x := 120) dX2_count_18 ⟨by decide +kernel, by unfold InR; decide⟩ ?_
    refine e_icmp_ge (tgt := 42) dX2_count_20 (by decide) (fun c => ?_) (fun c => ?_)
    · replace h := h.1 c
      refine e_iload 3 dX2_count_42 rfl ?_
      exact e_ireturn dX2_count_44 rfl ⟨_, rfl, h⟩
    · replace h := h.2 c
      refine e_aload_n 0 dX2_count_23 rfl ?_
      refine e_iload_n 1 dX2_count_24 rfl ?_
      refine e_iload 4 dX2_count_25 rfl ?_
      have o1 := h.1
      replace h := h.2
      have o2 := h.1
      replace h := h.2
      refine i_VI (μ' := MX2_isOf) (ci := 2) (r := x0) (as := [vI x1, vI x5]) (st := []) rfl dX2_count_27 mOKX2_isOf ⟨mlX2_74, imX2_isOf, seX2_isOf⟩ (by decide) (Nat.le_of_ble_eq_true rfl) rfl (Nat.le_of_ble_eq_true rfl) ⟨by decide, rfl⟩ o1 (sX2_isOf o2 ?_)
      refine e_if_eq (tgt := 36) dX2_count_30 (by decide) (fun c => ?_) (fun c => ?_)
      · replace h := h.1 c
        refine e_iinc (ls2 := [(5, vI (w32 (x5 + 1))), (0, vR x0), (1, vI x1), (3, vI x3), (4, vI x4)]) 4 dX2_count_36 rfl (by decide) rfl ?_
        refine e_goto (tgt := 10) dX2_count_39 (by decide) ?_
        exact e_sub (ls2 := [(0, vR x0), (1, vI x1), (3, vI x3), (4, vI x4), (5, vI (w32 (x5 + 1)))]) [1, 2, 3, 4, 0] rfl h
      · replace h := h.2 c
        refine e_iinc (ls2 := [(4, vI (w32 (x4 + 1))), (0, vR x0), (1, vI x1), (3, vI x3), (5, vI x5)]) 3 dX2_count_33 rfl (by decide) rfl ?_
        refine e_iinc (ls2 := [(5, vI (w32 (x5 + 1))), (4, vI (w32 (x4 + 1))), (0, vR x0), (1, vI x1), (3, vI x3)]) 4 dX2_count_36 rfl (by decide) rfl ?_
        refine e_goto (tgt := 10) dX2_count_39 (by decide) ?_
        exact e_sub (ls2 := [(0, vR x0), (1, vI x1), (3, vI x3), (4, vI (w32 (x4 + 1))), (5, vI (w32 (x5 + 1)))]) [2, 3, 4, 1, 0] rfl h

def LX2_leaveOver_28 (G : Gl) (x0 : Nat) (x3 : Nat) (x4 : Nat) (x5 : Int) (x6 : Int) (S : Sh) (I : MI) (R : MR) (Q : Sh → MI → MR → Int → Prop) : Prop := E G MX2_leaveOver 28 [(0, vR x0), (3, vR x3), (4, vR x4), (5, vI x5), (6, vI x6)] [] S I R (qI Q)
def LX2_leaveOver_71 (G : Gl) (x0 : Nat) (x3 : Nat) (x4 : Nat) (x5 : Int) (x6 : Int) (S : Sh) (I : MI) (R : MR) (Q : Sh → MI → MR → Int → Prop) : Prop := E G MX2_leaveOver 71 [(0, vR x0), (3, vR x3), (4, vR x4), (5, vI x5), (6, vI x6)] [] S I R (qI Q)
set_option maxRecDepth 100000 in
set_option maxHeartbeats 4000000 in
theorem bX2_leaveOver {G : Gl} {S : Sh} {I : MI} {R : MR} {Q : Sh → MI → MR → Int → Prop} {x0 : Nat} {x1 : Nat} {x2 : Int} {x3 : Nat} {x4 : Nat} (h : (sT S x4 = 6 ∧ (sT S (R x4 4) = 21 ∧ (((0 : Int) ≤ x2 ∧ x2 < (sL S (R x4 4) : Int)) ∧ (sT S x0 = 3 ∧ (CV G MX2_load [vR x0, vR x1, vR x4] S I R (fun S18 I18 R18 => (sT S18 x3 = 5 ∧ (CV G MX5_clear [vR x3] S18 I18 R18 (fun S22 I22 R22 => LX2_leaveOver_28 G x0 x3 x4 (min (I (R x4 4) (Int.toNat x2)) 120) 0 S22 I22 R22 Q)))))))))) : CI G MX2_leaveOver [vR x0, vR x1, vI x2, vR x3, vR x4] S I R Q := by
  show E G MX2_leaveOver 0 [(0, vR x0), (1, vR x1), (2, vI x2), (3, vR x3), (4, vR x4)] [] S I R (qI Q)
  refine e_aload 4 dX2_leaveOver_0 rfl ?_
  have o1 := h.1
  replace h := h.2
  refine e_getR dX2_leaveOver_2 flX2_84 rfl o1 ?_
  refine e_iload_n 2 dX2_leaveOver_5 rfl ?_
  have o2 := h.1
  replace h := h.2
  have o3 := h.1
  replace h := h.2
  refine e_iald dX2_leaveOver_6 o2 o3 ?_
  refine e_bipush (x := 120) dX2_leaveOver_7 ⟨by decide +kernel, by unfold InR; decide⟩ ?_
  refine e_mmin dX2_leaveOver_9 mmX2_33 mxmin (by decide) (Nat.le_of_ble_eq_true rfl) ?_
  refine e_istore (ls2 := [(5, vI (min (I (R x4 4) (Int.toNat x2)) 120)), (0, vR x0), (1, vR x1), (2, vI x2), (3, vR x3), (4, vR x4)]) dX2_leaveOver_12 (by decide) rfl ?_
  refine e_aload_n 1 dX2_leaveOver_14 rfl ?_
  refine e_aload_n 2 dX2_leaveOver_15 rfl ?_
  refine e_aload 5 dX2_leaveOver_16 rfl ?_
  have o4 := h.1
  replace h := h.2
  refine i_VV (μ' := MX2_load) (ci := 2) (r := x0) (as := [vR x1, vR x4]) (st := []) rfl dX2_leaveOver_18 mOKX2_load ⟨mlX2_45, imX2_load, seX2_load⟩ (by decide) (Nat.le_of_ble_eq_true rfl) rfl (Nat.le_of_ble_eq_true rfl) ⟨by decide, rfl⟩ o4 (CV.mono h ?_)
  clear h
  intro S18 I18 R18 h
  refine e_aload_n 4 dX2_leaveOver_21 rfl ?_
  have o5 := h.1
  replace h := h.2
  refine i_VV (μ' := MX5_clear) (ci := 4) (r := x3) (as := []) (st := []) rfl dX2_leaveOver_22 mOKX5_clear ⟨mlX2_95, imX5_clear, seX5_clear⟩ (by decide) (Nat.le_of_ble_eq_true rfl) rfl (Nat.le_of_ble_eq_true rfl) ⟨by decide, rfl⟩ o5 (CV.mono h ?_)
  clear h
  intro S22 I22 R22 h
  refine e_iconst dX2_leaveOver_25 (by unfold InR; decide) ?_
  refine e_istore (ls2 := [(6, vI 0), (5, vI (min (I (R x4 4) (Int.toNat x2)) 120)), (0, vR x0), (1, vR x1), (2, vI x2), (3, vR x3), (4, vR x4)]) dX2_leaveOver_26 (by decide) rfl ?_
  exact e_sub (ls2 := [(0, vR x0), (3, vR x3), (4, vR x4), (5, vI (min (I (R x4 4) (Int.toNat x2)) 120)), (6, vI 0)]) [2, 5, 6, 1, 0] rfl h
set_option maxRecDepth 100000 in
set_option maxHeartbeats 4000000 in
theorem bX2_leaveOver_28 {G : Gl} {S : Sh} {I : MI} {R : MR} {Q : Sh → MI → MR → Int → Prop} {x0 : Nat} {x3 : Nat} {x4 : Nat} {x5 : Int} {x6 : Int} (h : ((x5 ≤ x6 → Q S I R 1) ∧ (¬ (x5 ≤ x6) → (sT S x0 = 3 ∧ (sT S (R x0 3) = 21 ∧ (((0 : Int) ≤ x6 ∧ x6 < (sL S (R x0 3) : Int)) ∧ (((I (R x0 3) (Int.toNat x6)) = 0 → LX2_leaveOver_71 G x0 x3 x4 x5 x6 S I R Q) ∧ (¬ ((I (R x0 3) (Int.toNat x6)) = 0) → (sT S (R x0 2) = 21 ∧ (((0 : Int) ≤ x6 ∧ x6 < (sL S (R x0 2) : Int)) ∧ (((I (R x0 2) (Int.toNat x6)) = 0 → LX2_leaveOver_71 G x0 x3 x4 x5 x6 S I R Q) ∧ (¬ ((I (R x0 2) (Int.toNat x6)) = 0) → (sT S x4 = 6 ∧ (CV G MX2_subtractRow [vR x0, vI x6, vI x5, vR (R x4 1)] S I R (fun S65 I65 R65 => LX2_leaveOver_28 G x0 x3 x4 x5 (w32 (x6 + 1)) S65 I65 R65 Q))))))))))))))) : LX2_leaveOver_28 G x0 x3 x4 x5 x6 S I R Q := by
  show E G MX2_leaveOver 28 [(0, vR x0), (3, vR x3), (4, vR x4), (5, vI x5), (6, vI x6)] [] S I R (qI Q)
  refine e_iload 4 dX2_leaveOver_28 rfl ?_
  refine e_iload 3 dX2_leaveOver_30 rfl ?_
  refine e_icmp_ge (tgt := 111) dX2_leaveOver_32 (by decide) (fun c => ?_) (fun c => ?_)
  · replace h := h.1 c
    refine e_iconst dX2_leaveOver_111 (by unfold InR; decide) ?_
    exact e_zreturn dX2_leaveOver_112 rfl (by decide) ⟨_, rfl, h⟩
  · replace h := h.2 c
    refine e_aload_n 0 dX2_leaveOver_35 rfl ?_
    have o6 := h.1
    replace h := h.2
    refine e_getR dX2_leaveOver_36 flX2_24 rfl o6 ?_
    refine e_iload 4 dX2_leaveOver_39 rfl ?_
    have o7 := h.1
    replace h := h.2
    have o8 := h.1
    replace h := h.2
    refine e_iald dX2_leaveOver_41 o7 o8 ?_
    refine e_if_eq (tgt := 71) dX2_leaveOver_42 (by decide) (fun c => ?_) (fun c => ?_)
    · replace h := h.1 c
      exact e_sub (ls2 := [(0, vR x0), (3, vR x3), (4, vR x4), (5, vI x5), (6, vI x6)]) [0, 1, 2, 3, 4] rfl h
    · replace h := h.2 c
      refine e_aload_n 0 dX2_leaveOver_45 rfl ?_
      refine e_getR dX2_leaveOver_46 flX2_20 rfl o6 ?_
      refine e_iload 4 dX2_leaveOver_49 rfl ?_
      have o9 := h.1
      replace h := h.2
      have o10 := h.1
      replace h := h.2
      refine e_iald dX2_leaveOver_51 o9 o10 ?_
      refine e_if_eq (tgt := 71) dX2_leaveOver_52 (by decide) (fun c => ?_) (fun c => ?_)
      · replace h := h.1 c
        exact e_sub (ls2 := [(0, vR x0), (3, vR x3), (4, vR x4), (5, vI x5), (6, vI x6)]) [0, 1, 2, 3, 4] rfl h
      · replace h := h.2 c
        refine e_aload_n 0 dX2_leaveOver_55 rfl ?_
        refine e_iload 4 dX2_leaveOver_56 rfl ?_
        refine e_iload 3 dX2_leaveOver_58 rfl ?_
        refine e_aload 2 dX2_leaveOver_60 rfl ?_
        have o11 := h.1
        replace h := h.2
        refine e_getR dX2_leaveOver_62 flX2_49 rfl o11 ?_
        refine i_VV (μ' := MX2_subtractRow) (ci := 2) (r := x0) (as := [vI x6, vI x5, vR (R x4 1)]) (st := []) rfl dX2_leaveOver_65 mOKX2_subtractRow ⟨mlX2_100, imX2_subtractRow, seX2_subtractRow⟩ (by decide) (Nat.le_of_ble_eq_true rfl) rfl (Nat.le_of_ble_eq_true rfl) ⟨by decide, rfl⟩ o6 (CV.mono h ?_)
        clear h
        intro S65 I65 R65 h
        refine e_goto (tgt := 105) dX2_leaveOver_68 (by decide) ?_
        refine e_iinc (ls2 := [(6, vI (w32 (x6 + 1))), (0, vR x0), (3, vR x3), (4, vR x4), (5, vI x5)]) 4 dX2_leaveOver_105 rfl (by decide) rfl ?_
        refine e_goto (tgt := 28) dX2_leaveOver_108 (by decide) ?_
        exact e_sub (ls2 := [(0, vR x0), (3, vR x3), (4, vR x4), (5, vI x5), (6, vI (w32 (x6 + 1)))]) [1, 2, 3, 4, 0] rfl h
set_option maxRecDepth 100000 in
set_option maxHeartbeats 4000000 in
theorem bX2_leaveOver_71 {G : Gl} {S : Sh} {I : MI} {R : MR} {Q : Sh → MI → MR → Int → Prop} {x0 : Nat} {x3 : Nat} {x4 : Nat} {x5 : Int} {x6 : Int} (h : (sT S x0 = 3 ∧ (sT S (R x0 3) = 21 ∧ (((0 : Int) ≤ x6 ∧ x6 < (sL S (R x0 3) : Int)) ∧ (((I (R x0 3) (Int.toNat x6)) = 0 → LX2_leaveOver_28 G x0 x3 x4 x5 (w32 (x6 + 1)) S I R Q) ∧ (¬ ((I (R x0 3) (Int.toNat x6)) = 0) → (sT S x4 = 6 ∧ (sT S (R x4 3) = 21 ∧ (((0 : Int) ≤ x6 ∧ x6 < (sL S (R x4 3) : Int)) ∧ (sT S x3 = 5 ∧ (CI G MX5_append [vR x3, vI (I (R x4 3) (Int.toNat x6)), vI (I (R x0 3) (Int.toNat x6))] S I R (fun S97 I97 R97 x97_ => ((x97_ ≠ 0 → LX2_leaveOver_28 G x0 x3 x4 x5 (w32 (x6 + 1)) S97 I97 R97 Q) ∧ (¬ (x97_ ≠ 0) → Q S97 I97 R97 0)))))))))))))) : LX2_leaveOver_71 G x0 x3 x4 x5 x6 S I R Q := by
  show E G MX2_leaveOver 71 [(0, vR x0), (3, vR x3), (4, vR x4), (5, vI x5), (6, vI x6)] [] S I R (qI Q)
  refine e_aload_n 0 dX2_leaveOver_71 rfl ?_
  have o12 := h.1
  replace h := h.2
  refine e_getR dX2_leaveOver_72 flX2_24 rfl o12 ?_
  refine e_iload 4 dX2_leaveOver_75 rfl ?_
  have o13 := h.1
  replace h := h.2
  have o14 := h.1
  replace h := h.2
  refine e_iald dX2_leaveOver_77 o13 o14 ?_
  refine e_if_eq (tgt := 105) dX2_leaveOver_78 (by decide) (fun c => ?_) (fun c => ?_)
  · replace h := h.1 c
    refine e_iinc (ls2 := [(6, vI (w32 (x6 + 1))), (0, vR x0), (3, vR x3), (4, vR x4), (5, vI x5)]) 4 dX2_leaveOver_105 rfl (by decide) rfl ?_
    refine e_goto (tgt := 28) dX2_leaveOver_108 (by decide) ?_
    exact e_sub (ls2 := [(0, vR x0), (3, vR x3), (4, vR x4), (5, vI x5), (6, vI (w32 (x6 + 1)))]) [1, 2, 3, 4, 0] rfl h
  · replace h := h.2 c
    refine e_aload_n 1 dX2_leaveOver_81 rfl ?_
    refine e_aload 2 dX2_leaveOver_82 rfl ?_
    have o15 := h.1
    replace h := h.2
    refine e_getR dX2_leaveOver_84 flX2_104 rfl o15 ?_
    refine e_iload 4 dX2_leaveOver_87 rfl ?_
    have o16 := h.1
    replace h := h.2
    have o17 := h.1
    replace h := h.2
    refine e_iald dX2_leaveOver_89 o16 o17 ?_
    refine e_aload_n 0 dX2_leaveOver_90 rfl ?_
    refine e_getR dX2_leaveOver_91 flX2_24 rfl o12 ?_
    refine e_iload 4 dX2_leaveOver_94 rfl ?_
    refine e_iald dX2_leaveOver_96 o13 o14 ?_
    have o18 := h.1
    replace h := h.2
    refine i_VI (μ' := MX5_append) (ci := 4) (r := x3) (as := [vI (I (R x4 3) (Int.toNat x6)), vI (I (R x0 3) (Int.toNat x6))]) (st := []) rfl dX2_leaveOver_97 mOKX5_append ⟨mlX2_107, imX5_append, seX5_append⟩ (by decide) (Nat.le_of_ble_eq_true rfl) rfl (Nat.le_of_ble_eq_true rfl) ⟨by decide, rfl⟩ o18 (CI.mono h ?_)
    clear h
    intro S97 I97 R97 x97_ h
    refine e_if_ne (tgt := 105) dX2_leaveOver_100 (by decide) (fun c => ?_) (fun c => ?_)
    · replace h := h.1 c
      refine e_iinc (ls2 := [(6, vI (w32 (x6 + 1))), (0, vR x0), (3, vR x3), (4, vR x4), (5, vI x5)]) 4 dX2_leaveOver_105 rfl (by decide) rfl ?_
      refine e_goto (tgt := 28) dX2_leaveOver_108 (by decide) ?_
      exact e_sub (ls2 := [(0, vR x0), (3, vR x3), (4, vR x4), (5, vI x5), (6, vI (w32 (x6 + 1)))]) [1, 2, 3, 4, 0] rfl h
    · replace h := h.2 c
      refine e_iconst dX2_leaveOver_103 (by unfold InR; decide) ?_
      exact e_zreturn dX2_leaveOver_104 rfl (by decide) ⟨_, rfl, h⟩
