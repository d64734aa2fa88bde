set_option maxRecDepth 100000 in
set_option maxHeartbeats 4000000 in
theorem bX1_init {G : Gl} {S : Sh} {I : MI} {R : MR} {Q : Sh → MI → MR → Prop} {x0 : Nat} (h : (sT S x0 ≠ 0 ∧ (∀ S5 I5 R5, S5 = shNew S 5 0 3 → I5 = mNew I (sN S) 0 → R5 = mNew R (sN S) 0 → (sT S5 (sN S) ≠ 0 ∧ (CV G MX5_init [vR (sN S), vI 60] S5 I5 R5 (fun S11 I11 R11 => (sT S11 x0 = 2 ∧ (∀ R14, R14 = up2 R11 x0 0 (sN S) → (∀ S18 I18 R18, S18 = shNew S11 5 0 3 → I18 = mNew I11 (sN S11) 0 → R18 = mNew R14 (sN S11) 0 → (sT S18 (sN S11) ≠ 0 ∧ (CV G MX5_init [vR (sN S11), vI 60] S18 I18 R18 (fun S24 I24 R24 => (sT S24 x0 = 2 ∧ (∀ R27, R27 = up2 R24 x0 1 (sN S11) → (CR G MX9_polys [vI 8] S24 I24 R27 (fun S33 I33 R33 x33_ => (sT S33 x0 = 2 ∧ (∀ R36, R36 = up2 R33 x0 2 x33_ → Q S33 I33 R36)))))))))))))))))) : CV G MX1_init [vR x0] S I R Q := by
  show E G MX1_init 0 [(0, vR x0)] [] S I R (qV Q)
  refine e_aload_n 0 dX1_init_0 rfl ?_
  have o1 := h.1
  replace h := h.2
  refine e_objI dX1_init_1 ⟨moX1_3, oc⟩ (by decide) (Nat.le_of_ble_eq_true rfl) o1 ?_
  refine e_aload_n 0 dX1_init_4 rfl ?_
  obtain ⟨S5, eS5⟩ : ∃ z : Sh, z = shNew S 5 0 3 := ⟨_, rfl⟩
  obtain ⟨I5, eI5⟩ : ∃ z : MI, z = mNew I (sN S) 0 := ⟨_, rfl⟩
  obtain ⟨R5, eR5⟩ : ∃ z : MR, z = mNew R (sN S) 0 := ⟨_, rfl⟩
  replace h := h S5 I5 R5 eS5 eI5 eR5
  refine e_new (ci := 4) dX1_init_5 (by decide) ⟨clX1_9, is4, ii4⟩ (eqS eS5 (eqI eI5 (eqR eR5 ?_)))
  refine e_dup dX1_init_8 rfl ?_
  refine e_bipush (x := 60) dX1_init_9 ⟨by decide +kernel, by unfold InR; decide⟩ ?_
  have o2 := h.1
  replace h := h.2
  refine i_IV (μ' := MX5_init) (r := (sN S)) (as := [vI 60]) (st := [vR (sN S), vR x0]) rfl dX1_init_11 mOKX5_init ⟨mlX1_11, imX5_init⟩ ⟨rfl, rfl⟩ (by decide) (Nat.le_of_ble_eq_true rfl) rfl (Nat.le_of_ble_eq_true rfl) o2 (CV.mono h ?_)
  clear h
  intro S11 I11 R11 h
  have o3 := h.1
  replace h := h.2
  obtain ⟨R14, eR14⟩ : ∃ z : MR, z = up2 R11 x0 0 (sN S) := ⟨_, rfl⟩
  replace h := h R14 eR14
  refine e_putR dX1_init_14 flX1_14 rfl (Or.inr ⟨rfl, rfl, rfl⟩) o3 (eqR eR14 ?_)
  refine e_aload_n 0 dX1_init_17 rfl ?_
  obtain ⟨S18, eS18⟩ : ∃ z : Sh, z = shNew S11 5 0 3 := ⟨_, rfl⟩
  obtain ⟨I18, eI18⟩ : ∃ z : MI, z = mNew I11 (sN S11) 0 := ⟨_, rfl⟩
  obtain ⟨R18, eR18⟩ : ∃ z : MR, z = mNew R14 (sN S11) 0 := ⟨_, rfl⟩
  replace h := h S18 I18 R18 eS18 eI18 eR18
  refine e_new (ci := 4) dX1_init_18 (by decide) ⟨clX1_9, is4, ii4⟩ (eqS eS18 (eqI eI18 (eqR eR18 ?_)))
  refine e_dup dX1_init_21 rfl ?_
  refine e_bipush (x := 60) dX1_init_22 ⟨by decide +kernel, by unfold InR; decide⟩ ?_
  have o4 := h.1
  replace h := h.2
  refine i_IV (μ' := MX5_init) (r := (sN S11)) (as := [vI 60]) (st := [vR (sN S11), vR x0]) rfl dX1_init_24 mOKX5_init ⟨mlX1_11, imX5_init⟩ ⟨rfl, rfl⟩ (by decide) (Nat.le_of_ble_eq_true rfl) rfl (Nat.le_of_ble_eq_true rfl) o4 (CV.mono h ?_)
  clear h
  intro S24 I24 R24 h
  have o5 := h.1
  replace h := h.2
  obtain ⟨R27, eR27⟩ : ∃ z : MR, z = up2 R24 x0 1 (sN S11) := ⟨_, rfl⟩
  replace h := h R27 eR27
  refine e_putR dX1_init_27 flX1_20 rfl (Or.inr ⟨rfl, rfl, rfl⟩) o5 (eqR eR27 ?_)
  refine e_aload_n 0 dX1_init_30 rfl ?_
  refine e_bipush (x := 8) dX1_init_31 ⟨by decide +kernel, by unfold InR; decide⟩ ?_
  refine i_SNR (μ' := MX9_polys) (as := [vI 8]) (st := [vR x0]) rfl dX1_init_33 mOKX9_polys ⟨mnX1_23, stX9_polys⟩ (by decide) (Nat.le_of_ble_eq_true rfl) rfl (Nat.le_of_ble_eq_true rfl) (CR.mono h ?_)
  clear h
  intro S33 I33 R33 x33_ h
  have o6 := h.1
  replace h := h.2
  obtain ⟨R36, eR36⟩ : ∃ z : MR, z = up2 R33 x0 2 x33_ := ⟨_, rfl⟩
  replace h := h R36 eR36
  refine e_putR dX1_init_36 flX1_27 rfl (Or.inr ⟨rfl, rfl, rfl⟩) o6 (eqR eR36 ?_)
  exact e_return dX1_init_39 rfl ⟨rfl, h⟩

def LX1_begin_26 (G : Gl) (x2 : Nat) (x3 : Int) (x4 : Int) (S : Sh) (I : MI) (R : MR) (Q : Sh → MI → MR → Prop) : Prop := E G MX1_begin 26 [(2, vR x2), (3, vI x3), (4, vI x4)] [] S I R (qV Q)
set_option maxRecDepth 100000 in
set_option maxHeartbeats 4000000 in
theorem bX1_begin {G : Gl} {S : Sh} {I : MI} {R : MR} {Q : Sh → MI → MR → Prop} {x0 : Nat} {x1 : Nat} (h : (sT S x0 = 2 ∧ (sT S (R x0 0) = 5 ∧ (CV G MX5_become [vR (R x0 0), vR x1] S I R (fun S5 I5 R5 => (sT S5 x0 = 2 ∧ (sT S5 (R5 x0 1) = 5 ∧ (CV G MX5_clear [vR (R5 x0 1)] S5 I5 R5 (fun S12 I12 R12 => (sT S12 x0 = 2 ∧ (21 ≤ sT S12 (R12 x0 2) ∧ LX1_begin_26 G (R12 x0 2) (sL S12 (R12 x0 2) : Int) 0 S12 I12 R12 Q))))))))))) : CV G MX1_begin [vR x0, vR x1] S I R Q := by
  show E G MX1_begin 0 [(0, vR x0), (1, vR x1)] [] S I R (qV Q)
  refine e_aload_n 0 dX1_begin_0 rfl ?_
  have o1 := h.1
  replace h := h.2
  refine e_getR dX1_begin_1 flX1_14 rfl o1 ?_
  refine e_aload_n 1 dX1_begin_4 rfl ?_
  have o2 := h.1
  replace h := h.2
  refine i_VV (μ' := MX5_become) (ci := 4) (r := (R x0 0)) (as := [vR x1]) (st := []) rfl dX1_begin_5 mOKX5_become ⟨mlX1_31, imX5_become, seX5_become⟩ (by decide) (Nat.le_of_ble_eq_true rfl) rfl (Nat.le_of_ble_eq_true rfl) ⟨by decide, rfl⟩ o2 (CV.mono h ?_)
  clear h
  intro S5 I5 R5 h
  refine e_aload_n 0 dX1_begin_8 rfl ?_
  have o3 := h.1
  replace h := h.2
  refine e_getR dX1_begin_9 flX1_20 rfl o3 ?_
  have o4 := h.1
  replace h := h.2
  refine i_VV (μ' := MX5_clear) (ci := 4) (r := (R5 x0 1)) (as := []) (st := []) rfl dX1_begin_12 mOKX5_clear ⟨mlX1_35, imX5_clear, seX5_clear⟩ (by decide) (Nat.le_of_ble_eq_true rfl) rfl (Nat.le_of_ble_eq_true rfl) ⟨by decide, rfl⟩ o4 (CV.mono h ?_)
  clear h
  intro S12 I12 R12 h
  refine e_aload_n 0 dX1_begin_15 rfl ?_
  have o5 := h.1
  replace h := h.2
  refine e_getR dX1_begin_16 flX1_27 rfl o5 ?_
  refine e_astore_n (ls2 := [(2, vR (R12 x0 2)), (0, vR x0), (1, vR x1)]) dX1_begin_19 (by decide) rfl ?_
  refine e_aload_n 0 dX1_begin_20 rfl ?_
  have o6 := h.1
  replace h := h.2
  refine e_alen dX1_begin_21 o6 ?_
  refine e_istore_n (ls2 := [(3, vI (sL S12 (R12 x0 2) : Int)), (2, vR (R12 x0 2)), (0, vR x0), (1, vR x1)]) dX1_begin_22 (by decide) rfl ?_
  refine e_iconst dX1_begin_23 (by unfold InR; decide) ?_
  refine e_istore (ls2 := [(4, vI 0), (3, vI (sL S12 (R12 x0 2) : Int)), (2, vR (R12 x0 2)), (0, vR x0), (1, vR x1)]) dX1_begin_24 (by decide) rfl ?_
  exact e_sub (ls2 := [(2, vR (R12 x0 2)), (3, vI (sL S12 (R12 x0 2) : Int)), (4, vI 0)]) [2, 1, 0] rfl h
set_option maxRecDepth 100000 in
set_option maxHeartbeats 4000000 in
theorem bX1_begin_26 {G : Gl} {S : Sh} {I : MI} {R : MR} {Q : Sh → MI → MR → Prop} {x2 : Nat} {x3 : Int} {x4 : Int} (h : ((x3 ≤ x4 → Q S I R) ∧ (¬ (x3 ≤ x4) → (sT S x2 = 24 ∧ (((0 : Int) ≤ x4 ∧ x4 < (sL S x2 : Int)) ∧ (sT S (R x2 (Int.toNat x4)) = 5 ∧ (CV G MX5_clear [vR (R x2 (Int.toNat x4))] S I R (fun S40 I40 R40 => LX1_begin_26 G x2 x3 (w32 (x4 + 1)) S40 I40 R40 Q)))))))) : LX1_begin_26 G x2 x3 x4 S I R Q := by
  show E G MX1_begin 26 [(2, vR x2), (3, vI x3), (4, vI x4)] [] S I R (qV Q)
  refine e_iload 2 dX1_begin_26 rfl ?_
  refine e_iload_n 1 dX1_begin_28 rfl ?_
  refine e_icmp_ge (tgt := 49) dX1_begin_29 (by decide) (fun c => ?_) (fun c => ?_)
  · replace h := h.1 c
    exact e_return dX1_begin_49 rfl ⟨rfl, h⟩
  · replace h := h.2 c
    refine e_aload_n 0 dX1_begin_32 rfl ?_
    refine e_iload 2 dX1_begin_33 rfl ?_
    have o7 := h.1
    replace h := h.2
    have o8 := h.1
    replace h := h.2
    refine e_aald (t := 24) dX1_begin_35 o7 (by decide) (by decide) o8 ?_
    refine e_astore (ls2 := [(5, vR (R x2 (Int.toNat x4))), (2, vR x2), (3, vI x3), (4, vI x4)]) dX1_begin_36 (by decide) rfl ?_
    refine e_aload 0 dX1_begin_38 rfl ?_
    have o9 := h.1
    replace h := h.2
    refine i_VV (μ' := MX5_clear) (ci := 4) (r := (R x2 (Int.toNat x4))) (as := []) (st := []) rfl dX1_begin_40 mOKX5_clear ⟨mlX1_35, imX5_clear, seX5_clear⟩ (by decide) (Nat.le_of_ble_eq_true rfl) rfl (Nat.le_of_ble_eq_true rfl) ⟨by decide, rfl⟩ o9 (CV.mono h ?_)
    clear h
    intro S40 I40 R40 h
    refine e_iinc (ls2 := [(4, vI (w32 (x4 + 1))), (5, vR (R x2 (Int.toNat x4))), (2, vR x2), (3, vI x3)]) 3 dX1_begin_43 rfl (by decide) rfl ?_
    refine e_goto (tgt := 26) dX1_begin_46 (by decide) ?_
    exact e_sub (ls2 := [(2, vR x2), (3, vI x3), (4, vI (w32 (x4 + 1)))]) [2, 3, 0] rfl h

def LX1_mix_56 (G : Gl) (x0 : Nat) (x1 : Nat) (x2 : Int) (x3 : Int) (x4 : Nat) (x5 : Nat) (x6 : Int) (x7 : Int) (S : Sh) (I : MI) (R : MR) (Q : Sh → MI → MR → Int → Prop) : Prop := E G MX1_mix 56 [(0, vR x0), (1, vR x1), (2, vI x2), (3, vI x3), (4, vR x4), (5, vR x5), (6, vI x6), (7, vI x7)] [] S I R (qI Q)
set_option maxRecDepth 100000 in
set_option maxHeartbeats 4000000 in
theorem bX1_mix {G : Gl} {S : Sh} {I : MI} {R : MR} {Q : Sh → MI → MR → Int → Prop} {x0 : Nat} {x1 : Nat} {x2 : Int} {x3 : Int} {x4 : Nat} {x5 : Nat} (h : (sT S x0 = 2 ∧ (sT S x1 = 2 ∧ (sT S x4 = 2 ∧ (sT S (R x0 0) = 5 ∧ (CI G MX5_mix [vR (R x0 0), vR (R x1 0), vI x2, vI x3, vR (R x4 0), vR x5] S I R (fun S17 I17 R17 x17_ => ((x17_ = 0 → LX1_mix_56 G x0 x1 x2 x3 x4 x5 0 0 S17 I17 R17 Q) ∧ (¬ (x17_ = 0) → (sT S17 x0 = 2 ∧ (sT S17 x1 = 2 ∧ (sT S17 x4 = 2 ∧ (sT S17 (R17 x0 1) = 5 ∧ (CI G MX5_mix [vR (R17 x0 1), vR (R17 x1 1), vI x2, vI x3, vR (R17 x4 1), vR x5] S17 I17 R17 (fun S40 I40 R40 x40_ => ((x40_ = 0 → LX1_mix_56 G x0 x1 x2 x3 x4 x5 0 0 S40 I40 R40 Q) ∧ (¬ (x40_ = 0) → LX1_mix_56 G x0 x1 x2 x3 x4 x5 1 0 S40 I40 R40 Q))))))))))))))))) : CI G MX1_mix [vR x0, vR x1, vI x2, vI x3, vR x4, vR x5] S I R Q := by
  show E G MX1_mix 0 [(0, vR x0), (1, vR x1), (2, vI x2), (3, vI x3), (4, vR x4), (5, vR x5)] [] S I R (qI Q)
  refine e_aload_n 0 dX1_mix_0 rfl ?_
  have o1 := h.1
  replace h := h.2
  refine e_getR dX1_mix_1 flX1_14 rfl o1 ?_
  refine e_aload_n 1 dX1_mix_4 rfl ?_
  have o2 := h.1
  replace h := h.2
  refine e_getR dX1_mix_5 flX1_14 rfl o2 ?_
  refine e_iload_n 2 dX1_mix_8 rfl ?_
  refine e_iload_n 3 dX1_mix_9 rfl ?_
  refine e_aload 4 dX1_mix_10 rfl ?_
  have o3 := h.1
  replace h := h.2
  refine e_getR dX1_mix_12 flX1_14 rfl o3 ?_
  refine e_aload 5 dX1_mix_15 rfl ?_
  have o4 := h.1
  replace h := h.2
  refine i_VI (μ' := MX5_mix) (ci := 4) (r := (R x0 0)) (as := [vR (R x1 0), vI x2, vI x3, vR (R x4 0), vR x5]) (st := []) rfl dX1_mix_17 mOKX5_mix ⟨mlX1_38, imX5_mix, seX5_mix⟩ (by decide) (Nat.le_of_ble_eq_true rfl) rfl (Nat.le_of_ble_eq_true rfl) ⟨by decide, rfl⟩ o4 (CI.mono h ?_)
  clear h
  intro S17 I17 R17 x17_ h
  refine e_if_eq (tgt := 50) dX1_mix_20 (by decide) (fun c => ?_) (fun c => ?_)
  · replace h := h.1 c
    refine e_iconst dX1_mix_50 (by unfold InR; decide) ?_
    refine e_istore (ls2 := [(6, vI 0), (0, vR x0), (1, vR x1), (2, vI x2), (3, vI x3), (4, vR x4), (5, vR x5)]) dX1_mix_51 (by decide) rfl ?_
    refine e_iconst dX1_mix_53 (by unfold InR; decide) ?_
    refine e_istore (ls2 := [(7, vI 0), (6, vI 0), (0, vR x0), (1, vR x1), (2, vI x2), (3, vI x3), (4, vR x4), (5, vR x5)]) dX1_mix_54 (by decide) rfl ?_
    exact e_sub (ls2 := [(0, vR x0), (1, vR x1), (2, vI x2), (3, vI x3), (4, vR x4), (5, vR x5), (6, vI 0), (7, vI 0)]) [2, 3, 4, 5, 6, 7, 1, 0] rfl h
  · replace h := h.2 c
    refine e_aload_n 0 dX1_mix_23 rfl ?_
    have o5 := h.1
    replace h := h.2
    refine e_getR dX1_mix_24 flX1_20 rfl o5 ?_
    refine e_aload_n 1 dX1_mix_27 rfl ?_
    have o6 := h.1
    replace h := h.2
    refine e_getR dX1_mix_28 flX1_20 rfl o6 ?_
    refine e_iload_n 2 dX1_mix_31 rfl ?_
    refine e_iload_n 3 dX1_mix_32 rfl ?_
    refine e_aload 4 dX1_mix_33 rfl ?_
    have o7 := h.1
    replace h := h.2
    refine e_getR dX1_mix_35 flX1_20 rfl o7 ?_
    refine e_aload 5 dX1_mix_38 rfl ?_
    have o8 := h.1
    replace h := h.2
    refine i_VI (μ' := MX5_mix) (ci := 4) (r := (R17 x0 1)) (as := [vR (R17 x1 1), vI x2, vI x3, vR (R17 x4 1), vR x5]) (st := []) rfl dX1_mix_40 mOKX5_mix ⟨mlX1_38, imX5_mix, seX5_mix⟩ (by decide) (Nat.le_of_ble_eq_true rfl) rfl (Nat.le_of_ble_eq_true rfl) ⟨by decide, rfl⟩ o8 (CI.mono h ?_)
    clear h
    intro S40 I40 R40 x40_ h
    refine e_if_eq (tgt := 50) dX1_mix_43 (by decide) (fun c => ?_) (fun c => ?_)
    · replace h := h.1 c
      refine e_iconst dX1_mix_50 (by unfold InR; decide) ?_
      refine e_istore (ls2 := [(6, vI 0), (0, vR x0), (1, vR x1), (2, vI x2), (3, vI x3), (4, vR x4), (5, vR x5)]) dX1_mix_51 (by decide) rfl ?_
      refine e_iconst dX1_mix_53 (by unfold InR; decide) ?_
      refine e_istore (ls2 := [(7, vI 0), (6, vI 0), (0, vR x0), (1, vR x1), (2, vI x2), (3, vI x3), (4, vR x4), (5, vR x5)]) dX1_mix_54 (by decide) rfl ?_
      exact e_sub (ls2 := [(0, vR x0), (1, vR x1), (2, vI x2), (3, vI x3), (4, vR x4), (5, vR x5), (6, vI 0), (7, vI 0)]) [2, 3, 4, 5, 6, 7, 1, 0] rfl h
    · replace h := h.2 c
      refine e_iconst dX1_mix_46 (by unfold InR; decide) ?_
      refine e_goto (tgt := 51) dX1_mix_47 (by decide) ?_
      refine e_istore (ls2 := [(6, vI 1), (0, vR x0), (1, vR x1), (2, vI x2), (3, vI x3), (4, vR x4), (5, vR x5)]) dX1_mix_51 (by decide) rfl ?_
      refine e_iconst dX1_mix_53 (by unfold InR; decide) ?_
      refine e_istore (ls2 := [(7, vI 0), (6, vI 1), (0, vR x0), (1, vR x1), (2, vI x2), (3, vI x3), (4, vR x4), (5, vR x5)]) dX1_mix_54 (by decide) rfl ?_
      exact e_sub (ls2 := [(0, vR x0), (1, vR x1), (2, vI x2), (3, vI x3), (4, vR x4), (5, vR x5), (6, vI 1), (7, vI 0)]) [2, 3, 4, 5, 6, 7, 1, 0] rfl h
set_option maxRecDepth 100000 in
set_option maxHeartbeats 4000000 in
theorem bX1_mix_56 {G : Gl} {S : Sh} {I : MI} {R : MR} {Q : Sh → MI → MR → Int → Prop} {x0 : Nat} {x1 : Nat} {x2 : Int} {x3 : Int} {x4 : Nat} {x5 : Nat} {x6 : Int} {x7 : Int} (h : ((8 ≤ x7 → ((x6 = 0 ∨ x6 = 1) ∧ Q S I R x6)) ∧ (¬ (8 ≤ x7) → ((x6 = 0 → ((x6 = 0 ∨ x6 = 1) ∧ Q S I R x6)) ∧ (¬ (x6 = 0) → (sT S x0 = 2 ∧ (sT S (R x0 2) = 24 ∧ (((0 : Int) ≤ x7 ∧ x7 < (sL S (R x0 2) : Int)) ∧ (sT S x1 = 2 ∧ (sT S (R x1 2) = 24 ∧ (((0 : Int) ≤ x7 ∧ x7 < (sL S (R x1 2) : Int)) ∧ (sT S x4 = 2 ∧ (sT S (R x4 2) = 24 ∧ (((0 : Int) ≤ x7 ∧ x7 < (sL S (R x4 2) : Int)) ∧ (sT S (R (R x0 2) (Int.toNat x7)) = 5 ∧ (CI G MX5_mix [vR (R (R x0 2) (Int.toNat x7)), vR (R (R x1 2) (Int.toNat x7)), vI x2, vI x3, vR (R (R x4 2) (Int.toNat x7)), vR x5] S I R (fun S94 I94 R94 x94_ => LX1_mix_56 G x0 x1 x2 x3 x4 x5 x94_ (w32 (x7 + 1)) S94 I94 R94 Q))))))))))))))))) : LX1_mix_56 G x0 x1 x2 x3 x4 x5 x6 x7 S I R Q := by
  show E G MX1_mix 56 [(0, vR x0), (1, vR x1), (2, vI x2), (3, vI x3), (4, vR x4), (5, vR x5), (6, vI x6), (7, vI x7)] [] S I R (qI Q)
  refine e_iload 7 dX1_mix_56 rfl ?_
  refine e_bipush (x := 8) dX1_mix_58 ⟨by decide +kernel, by unfold InR; decide⟩ ?_
  refine e_icmp_ge (tgt := 105) dX1_mix_60 (by decide) (fun c => ?_) (fun c => ?_)
  · replace h := h.1 c
    refine e_iload 6 dX1_mix_105 rfl ?_
    exact e_zreturn dX1_mix_107 rfl h.1 ⟨_, rfl, h.2⟩
  · replace h := h.2 c
    refine e_iload 6 dX1_mix_63 rfl ?_
    refine e_if_eq (tgt := 105) dX1_mix_65 (by decide) (fun c => ?_) (fun c => ?_)
    · replace h := h.1 c
      refine e_iload 6 dX1_mix_105 rfl ?_
      exact e_zreturn dX1_mix_107 rfl h.1 ⟨_, rfl, h.2⟩
    · replace h := h.2 c
      refine e_aload_n 0 dX1_mix_68 rfl ?_
      have o9 := h.1
      replace h := h.2
      refine e_getR dX1_mix_69 flX1_27 rfl o9 ?_
      refine e_iload 7 dX1_mix_72 rfl ?_
      have o10 := h.1
      replace h := h.2
      have o11 := h.1
      replace h := h.2
      refine e_aald (t := 24) dX1_mix_74 o10 (by decide) (by decide) o11 ?_
      refine e_aload_n 1 dX1_mix_75 rfl ?_
      have o12 := h.1
      replace h := h.2
      refine e_getR dX1_mix_76 flX1_27 rfl o12 ?_
      refine e_iload 7 dX1_mix_79 rfl ?_
      have o13 := h.1
      replace h := h.2
      have o14 := h.1
      replace h := h.2
      refine e_aald (t := 24) dX1_mix_81 o13 (by decide) (by decide) o14 ?_
      refine e_iload_n 2 dX1_mix_82 rfl ?_
      refine e_iload_n 3 dX1_mix_83 rfl ?_
      refine e_aload 4 dX1_mix_84 rfl ?_
      have o15 := h.1
      replace h := h.2
      refine e_getR dX1_mix_86 flX1_27 rfl o15 ?_
      refine e_iload 7 dX1_mix_89 rfl ?_
      have o16 := h.1
      replace h := h.2
      have o17 := h.1
      replace h := h.2
      refine e_aald (t := 24) dX1_mix_91 o16 (by decide) (by decide) o17 ?_
      refine e_aload 5 dX1_mix_92 rfl ?_
      have o18 := h.1
      replace h := h.2
      refine i_VI (μ' := MX5_mix) (ci := 4) (r := (R (R x0 2) (Int.toNat x7))) (as := [vR (R (R x1 2) (Int.toNat x7)), vI x2, vI x3, vR (R (R x4 2) (Int.toNat x7)), vR x5]) (st := []) rfl dX1_mix_94 mOKX5_mix ⟨mlX1_38, imX5_mix, seX5_mix⟩ (by decide) (Nat.le_of_ble_eq_true rfl) rfl (Nat.le_of_ble_eq_true rfl) ⟨by decide, rfl⟩ o18 (CI.mono h ?_)
      clear h
      intro S94 I94 R94 x94_ h
      refine e_istore (ls2 := [(6, vI x94_), (0, vR x0), (1, vR x1), (2, vI x2), (3, vI x3), (4, vR x4), (5, vR x5), (7, vI x7)]) dX1_mix_97 (by decide) rfl ?_
      refine e_iinc (ls2 := [(7, vI (w32 (x7 + 1))), (6, vI x94_), (0, vR x0), (1, vR x1), (2, vI x2), (3, vI x3), (4, vR x4), (5, vR x5)]) 7 dX1_mix_99 rfl (by decide) rfl ?_
      refine e_goto (tgt := 56) dX1_mix_102 (by decide) ?_
      exact e_sub (ls2 := [(0, vR x0), (1, vR x1), (2, vI x2), (3, vI x3), (4, vR x4), (5, vR x5), (6, vI x94_), (7, vI (w32 (x7 + 1)))]) [2, 3, 4, 5, 6, 7, 1, 0] rfl h

def LX1_become_24 (G : Gl) (x0 : Nat) (x1 : Nat) (x2 : Int) (S : Sh) (I : MI) (R : MR) (Q : Sh → MI → MR → Prop) : Prop := E G MX1_become 24 [(0, vR x0), (1, vR x1), (2, vI x2)] [] S I R (qV Q)
set_option maxRecDepth 100000 in
set_option maxHeartbeats 4000000 in
theorem bX1_become {G : Gl} {S : Sh} {I : MI} {R : MR} {Q : Sh → MI → MR → Prop} {x0 : Nat} {x1 : Nat} (h : (sT S x0 = 2 ∧ (sT S x1 = 2 ∧ (sT S (R x0 0) = 5 ∧ (CV G MX5_become [vR (R x0 0), vR (R x1 0)] S I R (fun S8 I8 R8 => (sT S8 x0 = 2 ∧ (sT S8 x1 = 2 ∧ (sT S8 (R8 x0 1) = 5 ∧ (CV G MX5_become [vR (R8 x0 1), vR (R8 x1 1)] S8 I8 R8 (fun S19 I19 R19 => LX1_become_24 G x0 x1 0 S19 I19 R19 Q))))))))))) : CV G MX1_become [vR x0, vR x1] S I R Q := by
  show E G MX1_become 0 [(0, vR x0), (1, vR x1)] [] S I R (qV Q)
  refine e_aload_n 0 dX1_become_0 rfl ?_
  have o1 := h.1
  replace h := h.2
  refine e_getR dX1_become_1 flX1_14 rfl o1 ?_
  refine e_aload_n 1 dX1_become_4 rfl ?_
  have o2 := h.1
  replace h := h.2
  refine e_getR dX1_become_5 flX1_14 rfl o2 ?_
  have o3 := h.1
  replace h := h.2
  refine i_VV (μ' := MX5_become) (ci := 4) (r := (R x0 0)) (as := [vR (R x1 0)]) (st := []) rfl dX1_become_8 mOKX5_become ⟨mlX1_31, imX5_become, seX5_become⟩ (by decide) (Nat.le_of_ble_eq_true rfl) rfl (Nat.le_of_ble_eq_true rfl) ⟨by decide, rfl⟩ o3 (CV.mono h ?_)
  clear h
  intro S8 I8 R8 h
  refine e_aload_n 0 dX1_become_11 rfl ?_
  have o4 := h.1
  replace h := h.2
  refine e_getR dX1_become_12 flX1_20 rfl o4 ?_
  refine e_aload_n 1 dX1_become_15 rfl ?_
  have o5 := h.1
  replace h := h.2
  refine e_getR dX1_become_16 flX1_20 rfl o5 ?_
  have o6 := h.1
  replace h := h.2
  refine i_VV (μ' := MX5_become) (ci := 4) (r := (R8 x0 1)) (as := [vR (R8 x1 1)]) (st := []) rfl dX1_become_19 mOKX5_become ⟨mlX1_31, imX5_become, seX5_become⟩ (by decide) (Nat.le_of_ble_eq_true rfl) rfl (Nat.le_of_ble_eq_true rfl) ⟨by decide, rfl⟩ o6 (CV.mono h ?_)
  clear h
  intro S19 I19 R19 h
  refine e_iconst dX1_become_22 (by unfold InR; decide) ?_
  refine e_istore_n (ls2 := [(2, vI 0), (0, vR x0), (1, vR x1)]) dX1_become_23 (by decide) rfl ?_
  exact e_sub (ls2 := [(0, vR x0), (1, vR x1), (2, vI 0)]) [1, 2, 0] rfl h
set_option maxRecDepth 100000 in
set_option maxHeartbeats 4000000 in
theorem bX1_become_24 {G : Gl} {S : Sh} {I : MI} {R : MR} {Q : Sh → MI → MR → Prop} {x0 : Nat} {x1 : Nat} {x2 : Int} (h : ((8 ≤ x2 → Q S I R) ∧ (¬ (8 ≤ x2) → (sT S x0 = 2 ∧ (sT S (R x0 2) = 24 ∧ (((0 : Int) ≤ x2 ∧ x2 < (sL S (R x0 2) : Int)) ∧ (sT S x1 = 2 ∧ (sT S (R x1 2) = 24 ∧ (((0 : Int) ≤ x2 ∧ x2 < (sL S (R x1 2) : Int)) ∧ (sT S (R (R x0 2) (Int.toNat x2)) = 5 ∧ (CV G MX5_become [vR (R (R x0 2) (Int.toNat x2)), vR (R (R x1 2) (Int.toNat x2))] S I R (fun S42 I42 R42 => LX1_become_24 G x0 x1 (w32 (x2 + 1)) S42 I42 R42 Q)))))))))))) : LX1_become_24 G x0 x1 x2 S I R Q := by
  show E G MX1_become 24 [(0, vR x0), (1, vR x1), (2, vI x2)] [] S I R (qV Q)
  refine e_iload_n 2 dX1_become_24 rfl ?_
  refine e_bipush (x := 8) dX1_become_25 ⟨by decide +kernel, by unfold InR; decide⟩ ?_
  refine e_icmp_ge (tgt := 51) dX1_become_27 (by decide) (fun c => ?_) (fun c => ?_)
  · replace h := h.1 c
    exact e_return dX1_become_51 rfl ⟨rfl, h⟩
  · replace h := h.2 c
    refine e_aload_n 0 dX1_become_30 rfl ?_
    have o7 := h.1
    replace h := h.2
    refine e_getR dX1_become_31 flX1_27 rfl o7 ?_
    refine e_iload_n 2 dX1_become_34 rfl ?_
    have o8 := h.1
    replace h := h.2
    have o9 := h.1
    replace h := h.2
    refine e_aald (t := 24) dX1_become_35 o8 (by decide) (by decide) o9 ?_
    refine e_aload_n 1 dX1_become_36 rfl ?_
    have o10 := h.1
    replace h := h.2
    refine e_getR dX1_become_37 flX1_27 rfl o10 ?_
    refine e_iload_n 2 dX1_become_40 rfl ?_
    have o11 := h.1
    replace h := h.2
    have o12 := h.1
    replace h := h.2
    refine e_aald (t := 24) dX1_become_41 o11 (by decide) (by decide) o12 ?_
    have o13 := h.1
    replace h := h.2
    refine i_VV (μ' := MX5_become) (ci := 4) (r := (R (R x0 2) (Int.toNat x2))) (as := [vR (R (R x1 2) (Int.toNat x2))]) (st := []) rfl dX1_become_42 mOKX5_become ⟨mlX1_31, imX5_become, seX5_become⟩ (by decide) (Nat.le_of_ble_eq_true rfl) rfl (Nat.le_of_ble_eq_true rfl) ⟨by decide, rfl⟩ o13 (CV.mono h ?_)
    clear h
    intro S42 I42 R42 h
    refine e_iinc (ls2 := [(2, vI (w32 (x2 + 1))), (0, vR x0), (1, vR x1)]) 2 dX1_become_45 rfl (by decide) rfl ?_
    refine e_goto (tgt := 24) dX1_become_48 (by decide) ?_
    exact e_sub (ls2 := [(0, vR x0), (1, vR x1), (2, vI (w32 (x2 + 1)))]) [1, 2, 0] rfl h
