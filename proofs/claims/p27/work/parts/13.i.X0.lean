def LX0_init_48 (G : Gl) (x0 : Nat) (x1 : Int) (S : Sh) (I : MI) (R : MR) (Q : Sh → MI → MR → Prop) : Prop := E G MX0_init 48 [(0, vR x0), (1, vI x1)] [] S I R (qV Q)
set_option maxRecDepth 100000 in
set_option maxHeartbeats 4000000 in
theorem bX0_init {G : Gl} {S : Sh} {I : MI} {R : MR} {Q : Sh → MI → MR → Prop} {x0 : Nat} (h : (sT S x0 ≠ 0 ∧ (∀ S7 I7 R7, S7 = shNew S 25 20 20 → I7 = mNew I (sN S) 0 → R7 = mNew R (sN S) 0 → (sT S7 x0 = 1 ∧ (∀ R10, R10 = up2 R7 x0 5 (sN S) → (∀ S17 I17 R17, S17 = shMul S7 40 5 → I17 = iMul I7 (sN S7) 40 → R17 = rMul R10 (sN S7) 40 → (sT S17 x0 = 1 ∧ (∀ R21, R21 = up2 R17 x0 6 (sN S7) → (∀ S25 I25 R25, S25 = shNew S17 2 0 3 → I25 = mNew I17 (sN S17) 0 → R25 = mNew R21 (sN S17) 0 → (sT S25 (sN S17) ≠ 0 ∧ (CV G MX1_init [vR (sN S17)] S25 I25 R25 (fun S29 I29 R29 => (sT S29 x0 = 1 ∧ (∀ R32, R32 = up2 R29 x0 7 (sN S17) → (∀ S36 I36 R36, S36 = shNew S29 2 0 3 → I36 = mNew I29 (sN S29) 0 → R36 = mNew R32 (sN S29) 0 → (sT S36 (sN S29) ≠ 0 ∧ (CV G MX1_init [vR (sN S29)] S36 I36 R36 (fun S40 I40 R40 => (sT S40 x0 = 1 ∧ (∀ R43, R43 = up2 R40 x0 8 (sN S29) → LX0_init_48 G x0 0 S40 I40 R43 Q)))))))))))))))))))) : CV G MX0_init [vR x0] S I R Q := by
  show E G MX0_init 0 [(0, vR x0)] [] S I R (qV Q)
  refine e_aload_n 0 dX0_init_0 rfl ?_
  have o1 := h.1
  replace h := h.2
  refine e_objI dX0_init_1 ⟨moX0_3, oc⟩ (by decide) (Nat.le_of_ble_eq_true rfl) o1 ?_
  refine e_aload_n 0 dX0_init_4 rfl ?_
  refine e_bipush (x := 20) dX0_init_5 ⟨by decide +kernel, by unfold InR; decide⟩ ?_
  obtain ⟨S7, eS7⟩ : ∃ z : Sh, z = shNew S 25 20 20 := ⟨_, rfl⟩
  obtain ⟨I7, eI7⟩ : ∃ z : MI, z = mNew I (sN S) 0 := ⟨_, rfl⟩
  obtain ⟨R7, eR7⟩ : ∃ z : MR, z = mNew R (sN S) 0 := ⟨_, rfl⟩
  replace h := h S7 I7 R7 eS7 eI7 eR7
  refine e_anew (t := 25) (C := RX1) (n := 20) dX0_init_7 (by decide) (by decide) rfl ⟨clX0_9, Or.inr (Or.inl rfl)⟩ rfl (by decide) (eqS eS7 (eqI eI7 (eqR eR7 ?_)))
  have o2 := h.1
  replace h := h.2
  obtain ⟨R10, eR10⟩ : ∃ z : MR, z = up2 R7 x0 5 (sN S) := ⟨_, rfl⟩
  replace h := h R10 eR10
  refine e_putR dX0_init_10 flX0_11 rfl (Or.inr ⟨rfl, rfl, rfl⟩) o2 (eqR eR10 ?_)
  refine e_aload_n 0 dX0_init_13 rfl ?_
  refine e_bipush (x := 40) dX0_init_14 ⟨by decide +kernel, by unfold InR; decide⟩ ?_
  refine e_iconst dX0_init_16 (by unfold InR; decide) ?_
  obtain ⟨S17, eS17⟩ : ∃ z : Sh, z = shMul S7 40 5 := ⟨_, rfl⟩
  obtain ⟨I17, eI17⟩ : ∃ z : MI, z = iMul I7 (sN S7) 40 := ⟨_, rfl⟩
  obtain ⟨R17, eR17⟩ : ∃ z : MR, z = rMul R10 (sN S7) 40 := ⟨_, rfl⟩
  replace h := h S17 I17 R17 eS17 eI17 eR17
  refine e_mna (n := 40) (k := 5) dX0_init_17 ⟨clX0_17, acint⟩ rfl rfl (by decide) (by decide) (eqS eS17 (eqI eI17 (eqR eR17 ?_)))
  have o3 := h.1
  replace h := h.2
  obtain ⟨R21, eR21⟩ : ∃ z : MR, z = up2 R17 x0 6 (sN S7) := ⟨_, rfl⟩
  replace h := h R21 eR21
  refine e_putR dX0_init_21 flX0_19 rfl (Or.inr ⟨rfl, rfl, rfl⟩) o3 (eqR eR21 ?_)
  refine e_aload_n 0 dX0_init_24 rfl ?_
  obtain ⟨S25, eS25⟩ : ∃ z : Sh, z = shNew S17 2 0 3 := ⟨_, rfl⟩
  obtain ⟨I25, eI25⟩ : ∃ z : MI, z = mNew I17 (sN S17) 0 := ⟨_, rfl⟩
  obtain ⟨R25, eR25⟩ : ∃ z : MR, z = mNew R21 (sN S17) 0 := ⟨_, rfl⟩
  replace h := h S25 I25 R25 eS25 eI25 eR25
  refine e_new (ci := 1) dX0_init_25 (by decide) ⟨clX0_9, is1, ii1⟩ (eqS eS25 (eqI eI25 (eqR eR25 ?_)))
  refine e_dup dX0_init_28 rfl ?_
  have o4 := h.1
  replace h := h.2
  refine i_INV (μ' := MX1_init) (r := (sN S17)) (as := []) (st := [vR (sN S17), vR x0]) rfl dX0_init_29 mOKX1_init ⟨mnX0_22, imX1_init⟩ ⟨rfl, rfl⟩ (by decide) (Nat.le_of_ble_eq_true rfl) rfl (Nat.le_of_ble_eq_true rfl) o4 (CV.mono h ?_)
  clear h
  intro S29 I29 R29 h
  have o5 := h.1
  replace h := h.2
  obtain ⟨R32, eR32⟩ : ∃ z : MR, z = up2 R29 x0 7 (sN S17) := ⟨_, rfl⟩
  replace h := h R32 eR32
  refine e_putR dX0_init_32 flX0_23 rfl (Or.inl rfl) o5 (eqR eR32 ?_)
  refine e_aload_n 0 dX0_init_35 rfl ?_
  obtain ⟨S36, eS36⟩ : ∃ z : Sh, z = shNew S29 2 0 3 := ⟨_, rfl⟩
  obtain ⟨I36, eI36⟩ : ∃ z : MI, z = mNew I29 (sN S29) 0 := ⟨_, rfl⟩
  obtain ⟨R36, eR36⟩ : ∃ z : MR, z = mNew R32 (sN S29) 0 := ⟨_, rfl⟩
  replace h := h S36 I36 R36 eS36 eI36 eR36
  refine e_new (ci := 1) dX0_init_36 (by decide) ⟨clX0_9, is1, ii1⟩ (eqS eS36 (eqI eI36 (eqR eR36 ?_)))
  refine e_dup dX0_init_39 rfl ?_
  have o6 := h.1
  replace h := h.2
  refine i_INV (μ' := MX1_init) (r := (sN S29)) (as := []) (st := [vR (sN S29), vR x0]) rfl dX0_init_40 mOKX1_init ⟨mnX0_22, imX1_init⟩ ⟨rfl, rfl⟩ (by decide) (Nat.le_of_ble_eq_true rfl) rfl (Nat.le_of_ble_eq_true rfl) o6 (CV.mono h ?_)
  clear h
  intro S40 I40 R40 h
  have o7 := h.1
  replace h := h.2
  obtain ⟨R43, eR43⟩ : ∃ z : MR, z = up2 R40 x0 8 (sN S29) := ⟨_, rfl⟩
  replace h := h R43 eR43
  refine e_putR dX0_init_43 flX0_27 rfl (Or.inl rfl) o7 (eqR eR43 ?_)
  refine e_iconst dX0_init_46 (by unfold InR; decide) ?_
  refine e_istore_n (ls2 := [(1, vI 0), (0, vR x0)]) dX0_init_47 (by decide) rfl ?_
  exact e_sub (ls2 := [(0, vR x0), (1, vI 0)]) [1, 0] rfl h
set_option maxRecDepth 100000 in
set_option maxHeartbeats 4000000 in
theorem bX0_init_48 {G : Gl} {S : Sh} {I : MI} {R : MR} {Q : Sh → MI → MR → Prop} {x0 : Nat} {x1 : Int} (h : ((20 ≤ x1 → Q S I R) ∧ (¬ (20 ≤ x1) → (sT S x0 = 1 ∧ (∀ S59 I59 R59, S59 = shNew S 2 0 3 → I59 = mNew I (sN S) 0 → R59 = mNew R (sN S) 0 → (sT S59 (sN S) ≠ 0 ∧ (CV G MX1_init [vR (sN S)] S59 I59 R59 (fun S63 I63 R63 => (sT S63 (R x0 5) = 25 ∧ (((0 : Int) ≤ x1 ∧ x1 < (sL S63 (R x0 5) : Int)) ∧ (sT S63 (sN S) = 2 ∧ (∀ R66, R66 = up2 R63 (R x0 5) (Int.toNat x1) (sN S) → LX0_init_48 G x0 (w32 (x1 + 1)) S63 I63 R66 Q)))))))))))) : LX0_init_48 G x0 x1 S I R Q := by
  show E G MX0_init 48 [(0, vR x0), (1, vI x1)] [] S I R (qV Q)
  refine e_iload_n 1 dX0_init_48 rfl ?_
  refine e_bipush (x := 20) dX0_init_49 ⟨by decide +kernel, by unfold InR; decide⟩ ?_
  refine e_icmp_ge (tgt := 73) dX0_init_51 (by decide) (fun c => ?_) (fun c => ?_)
  · replace h := h.1 c
    exact e_return dX0_init_73 rfl ⟨rfl, h⟩
  · replace h := h.2 c
    refine e_aload_n 0 dX0_init_54 rfl ?_
    have o8 := h.1
    replace h := h.2
    refine e_getR dX0_init_55 flX0_11 rfl o8 ?_
    refine e_iload_n 1 dX0_init_58 rfl ?_
    obtain ⟨S59, eS59⟩ : ∃ z : Sh, z = shNew S 2 0 3 := ⟨_, rfl⟩
    obtain ⟨I59, eI59⟩ : ∃ z : MI, z = mNew I (sN S) 0 := ⟨_, rfl⟩
    obtain ⟨R59, eR59⟩ : ∃ z : MR, z = mNew R (sN S) 0 := ⟨_, rfl⟩
    replace h := h S59 I59 R59 eS59 eI59 eR59
    refine e_new (ci := 1) dX0_init_59 (by decide) ⟨clX0_9, is1, ii1⟩ (eqS eS59 (eqI eI59 (eqR eR59 ?_)))
    refine e_dup dX0_init_62 rfl ?_
    have o9 := h.1
    replace h := h.2
    refine i_INV (μ' := MX1_init) (r := (sN S)) (as := []) (st := [vR (sN S), vI x1, vR (R x0 5)]) rfl dX0_init_63 mOKX1_init ⟨mnX0_22, imX1_init⟩ ⟨rfl, rfl⟩ (by decide) (Nat.le_of_ble_eq_true rfl) rfl (Nat.le_of_ble_eq_true rfl) o9 (CV.mono h ?_)
    clear h
    intro S63 I63 R63 h
    have o10 := h.1
    replace h := h.2
    have o11 := h.1
    replace h := h.2
    have o12 := h.1
    replace h := h.2
    obtain ⟨R66, eR66⟩ : ∃ z : MR, z = up2 R63 (R x0 5) (Int.toNat x1) (sN S) := ⟨_, rfl⟩
    replace h := h R66 eR66
    refine e_aast (t := 25) dX0_init_66 o10 (Or.inr (Or.inl ⟨rfl, o12⟩)) o11 (eqR eR66 ?_)
    refine e_iinc (ls2 := [(1, vI (w32 (x1 + 1))), (0, vR x0)]) 1 dX0_init_67 rfl (by decide) rfl ?_
    refine e_goto (tgt := 48) dX0_init_70 (by decide) ?_
    exact e_sub (ls2 := [(0, vR x0), (1, vI (w32 (x1 + 1)))]) [1, 0] rfl h

def LX0_begin_23 (G : Gl) (x0 : Nat) (x1 : Nat) (x2 : Int) (x3 : Int) (x4 : Nat) (x5 : Int) (S : Sh) (I : MI) (R : MR) (Q : Sh → MI → MR → Prop) : Prop := E G MX0_begin 23 [(0, vR x0), (1, vR x1), (2, vI x2), (3, vI x3), (4, vR x4), (5, vI x5)] [] S I R (qV Q)
def LX0_begin_103 (G : Gl) (x0 : Nat) (x1 : Nat) (x2 : Int) (S : Sh) (I : MI) (R : MR) (Q : Sh → MI → MR → Prop) : Prop := E G MX0_begin 103 [(0, vR x0), (1, vR x1), (2, vI x2)] [] S I R (qV Q)
set_option maxRecDepth 100000 in
set_option maxHeartbeats 4000000 in
theorem bX0_begin {G : Gl} {S : Sh} {I : MI} {R : MR} {Q : Sh → MI → MR → Prop} {x0 : Nat} {x1 : Nat} {x2 : Int} {x3 : Int} {x4 : Nat} (h : (sT S x0 = 1 ∧ (∀ I2, I2 = up2 I x0 1 x3 → (∀ I7, I7 = up2 I2 x0 2 x2 → (∀ I12, I12 = up2 I7 x0 3 0 → (∀ I17, I17 = up2 I12 x0 4 0 → LX0_begin_23 G x0 x1 x2 x3 x4 0 S I17 R Q)))))) : CV G MX0_begin [vR x0, vR x1, vI x2, vI x3, vR x4] S I R Q := by
  show E G MX0_begin 0 [(0, vR x0), (1, vR x1), (2, vI x2), (3, vI x3), (4, vR x4)] [] S I R (qV Q)
  refine e_aload_n 0 dX0_begin_0 rfl ?_
  refine e_iload_n 3 dX0_begin_1 rfl ?_
  have o1 := h.1
  replace h := h.2
  obtain ⟨I2, eI2⟩ : ∃ z : MI, z = up2 I x0 1 x3 := ⟨_, rfl⟩
  replace h := h I2 eI2
  refine e_putI dX0_begin_2 flX0_57 rfl (Or.inl rfl) o1 (eqI eI2 ?_)
  refine e_aload_n 0 dX0_begin_5 rfl ?_
  refine e_iload_n 2 dX0_begin_6 rfl ?_
  obtain ⟨I7, eI7⟩ : ∃ z : MI, z = up2 I2 x0 2 x2 := ⟨_, rfl⟩
  replace h := h I7 eI7
  refine e_putI dX0_begin_7 flX0_67 rfl (Or.inl rfl) o1 (eqI eI7 ?_)
  refine e_aload_n 0 dX0_begin_10 rfl ?_
  refine e_iconst dX0_begin_11 (by unfold InR; decide) ?_
  obtain ⟨I12, eI12⟩ : ∃ z : MI, z = up2 I7 x0 3 0 := ⟨_, rfl⟩
  replace h := h I12 eI12
  refine e_putI dX0_begin_12 flX0_46 rfl (Or.inl rfl) o1 (eqI eI12 ?_)
  refine e_aload_n 0 dX0_begin_15 rfl ?_
  refine e_iconst dX0_begin_16 (by unfold InR; decide) ?_
  obtain ⟨I17, eI17⟩ : ∃ z : MI, z = up2 I12 x0 4 0 := ⟨_, rfl⟩
  replace h := h I17 eI17
  refine e_putI dX0_begin_17 flX0_64 rfl (Or.inl rfl) o1 (eqI eI17 ?_)
  refine e_iconst dX0_begin_20 (by unfold InR; decide) ?_
  refine e_istore (ls2 := [(5, vI 0), (0, vR x0), (1, vR x1), (2, vI x2), (3, vI x3), (4, vR x4)]) dX0_begin_21 (by decide) rfl ?_
  exact e_sub (ls2 := [(0, vR x0), (1, vR x1), (2, vI x2), (3, vI x3), (4, vR x4), (5, vI 0)]) [1, 2, 3, 4, 5, 0] rfl h
set_option maxRecDepth 100000 in
set_option maxHeartbeats 4000000 in
theorem bX0_begin_23 {G : Gl} {S : Sh} {I : MI} {R : MR} {Q : Sh → MI → MR → Prop} {x0 : Nat} {x1 : Nat} {x2 : Int} {x3 : Int} {x4 : Nat} {x5 : Int} (h : ((8 ≤ x5 → LX0_begin_103 G x0 x1 x2 S I R Q) ∧ (¬ (8 ≤ x5) → (21 ≤ sT S x1 ∧ (((sL S x1 : Int) ≤ x5 → LX0_begin_103 G x0 x1 x2 S I R Q) ∧ (¬ ((sL S x1 : Int) ≤ x5) → (((iand (ishr x3 x5) 1) ≠ 1 → LX0_begin_23 G x0 x1 x2 x3 x4 (w32 (x5 + 1)) S I R Q) ∧ (¬ ((iand (ishr x3 x5) 1) ≠ 1) → (sT S x0 = 1 ∧ (sT S (R x0 5) = 25 ∧ (((0 : Int) ≤ (I x0 4) ∧ (I x0 4) < (sL S (R x0 5) : Int)) ∧ (sT S x1 = 24 ∧ (((0 : Int) ≤ x5 ∧ x5 < (sL S x1 : Int)) ∧ (sT S (R (R x0 5) (Int.toNat (I x0 4))) = 2 ∧ (CV G MX1_begin [vR (R (R x0 5) (Int.toNat (I x0 4))), vR (R x1 (Int.toNat x5))] S I R (fun S60 I60 R60 => (sT S60 x0 = 1 ∧ (sT S60 (R60 x0 5) = 25 ∧ (((0 : Int) ≤ (I60 x0 4) ∧ (I60 x0 4) < (sL S60 (R60 x0 5) : Int)) ∧ (sT S60 (R60 (R60 x0 5) (Int.toNat (I60 x0 4))) = 2 ∧ (sT S60 (R60 (R60 (R60 x0 5) (Int.toNat (I60 x0 4))) 2) = 24 ∧ (((0 : Int) ≤ x5 ∧ x5 < (sL S60 (R60 (R60 (R60 x0 5) (Int.toNat (I60 x0 4))) 2) : Int)) ∧ (sT S60 x4 = 4 ∧ ((pX4_negative S60 x4 1) ∧ (sT S60 (R60 (R60 (R60 (R60 x0 5) (Int.toNat (I60 x0 4))) 2) (Int.toNat x5)) = 5 ∧ (CV G MX5_becomeNumber [vR (R60 (R60 (R60 (R60 x0 5) (Int.toNat (I60 x0 4))) 2) (Int.toNat x5)), vI (vX4_negative I60 x4 1)] S60 I60 R60 (fun S84 I84 R84 => (sT S84 x0 = 1 ∧ (∀ I94, I94 = up2 I84 x0 4 (w32 ((I84 x0 4) + 1)) → LX0_begin_23 G x0 x1 x2 x3 x4 (w32 (x5 + 1)) S84 I94 R84 Q))))))))))))))))))))))))))))) : LX0_begin_23 G x0 x1 x2 x3 x4 x5 S I R Q := by
  show E G MX0_begin 23 [(0, vR x0), (1, vR x1), (2, vI x2), (3, vI x3), (4, vR x4), (5, vI x5)] [] S I R (qV Q)
  refine e_iload 5 dX0_begin_23 rfl ?_
  refine e_bipush (x := 8) dX0_begin_25 ⟨by decide +kernel, by unfold InR; decide⟩ ?_
  refine e_icmp_ge (tgt := 103) dX0_begin_27 (by decide) (fun c => ?_) (fun c => ?_)
  · replace h := h.1 c
    exact e_sub (ls2 := [(0, vR x0), (1, vR x1), (2, vI x2)]) [0, 1, 2] rfl h
  · replace h := h.2 c
    refine e_iload 5 dX0_begin_30 rfl ?_
    refine e_aload_n 1 dX0_begin_32 rfl ?_
    have o2 := h.1
    replace h := h.2
    refine e_alen dX0_begin_33 o2 ?_
    refine e_icmp_ge (tgt := 103) dX0_begin_34 (by decide) (fun c => ?_) (fun c => ?_)
    · replace h := h.1 c
      exact e_sub (ls2 := [(0, vR x0), (1, vR x1), (2, vI x2)]) [0, 1, 2] rfl h
    · replace h := h.2 c
      refine e_iload_n 3 dX0_begin_37 rfl ?_
      refine e_iload 5 dX0_begin_38 rfl ?_
      refine e_ishr dX0_begin_40 ?_
      refine e_iconst dX0_begin_41 (by unfold InR; decide) ?_
      refine e_iand dX0_begin_42 ?_
      refine e_iconst dX0_begin_43 (by unfold InR; decide) ?_
      refine e_icmp_ne (tgt := 97) dX0_begin_44 (by decide) (fun c => ?_) (fun c => ?_)
      · replace h := h.1 c
        refine e_iinc (ls2 := [(5, vI (w32 (x5 + 1))), (0, vR x0), (1, vR x1), (2, vI x2), (3, vI x3), (4, vR x4)]) 5 dX0_begin_97 rfl (by decide) rfl ?_
        refine e_goto (tgt := 23) dX0_begin_100 (by decide) ?_
        exact e_sub (ls2 := [(0, vR x0), (1, vR x1), (2, vI x2), (3, vI x3), (4, vR x4), (5, vI (w32 (x5 + 1)))]) [1, 2, 3, 4, 5, 0] rfl h
      · replace h := h.2 c
        refine e_aload_n 0 dX0_begin_47 rfl ?_
        have o3 := h.1
        replace h := h.2
        refine e_getR dX0_begin_48 flX0_11 rfl o3 ?_
        refine e_aload_n 0 dX0_begin_51 rfl ?_
        refine e_getI dX0_begin_52 flX0_64 rfl o3 ?_
        have o4 := h.1
        replace h := h.2
        have o5 := h.1
        replace h := h.2
        refine e_aald (t := 25) dX0_begin_55 o4 (by decide) (by decide) o5 ?_
        refine e_aload_n 1 dX0_begin_56 rfl ?_
        refine e_iload 5 dX0_begin_57 rfl ?_
        have o6 := h.1
        replace h := h.2
        have o7 := h.1
        replace h := h.2
        refine e_aald (t := 24) dX0_begin_59 o6 (by decide) (by decide) o7 ?_
        have o8 := h.1
        replace h := h.2
        refine i_VV (μ' := MX1_begin) (ci := 1) (r := (R (R x0 5) (Int.toNat (I x0 4)))) (as := [vR (R x1 (Int.toNat x5))]) (st := []) rfl dX0_begin_60 mOKX1_begin ⟨mlX0_70, imX1_begin, seX1_begin⟩ (by decide) (Nat.le_of_ble_eq_true rfl) rfl (Nat.le_of_ble_eq_true rfl) ⟨by decide, rfl⟩ o8 (CV.mono h ?_)
        clear h
        intro S60 I60 R60 h
        refine e_aload_n 0 dX0_begin_63 rfl ?_
        have o9 := h.1
        replace h := h.2
        refine e_getR dX0_begin_64 flX0_11 rfl o9 ?_
        refine e_aload_n 0 dX0_begin_67 rfl ?_
        refine e_getI dX0_begin_68 flX0_64 rfl o9 ?_
        have o10 := h.1
        replace h := h.2
        have o11 := h.1
        replace h := h.2
        refine e_aald (t := 25) dX0_begin_71 o10 (by decide) (by decide) o11 ?_
        have o12 := h.1
        replace h := h.2
        refine e_getR dX0_begin_72 flX0_60 rfl o12 ?_
        refine e_iload 5 dX0_begin_75 rfl ?_
        have o13 := h.1
        replace h := h.2
        have o14 := h.1
        replace h := h.2
        refine e_aald (t := 24) dX0_begin_77 o13 (by decide) (by decide) o14 ?_
        refine e_aload 4 dX0_begin_78 rfl ?_
        refine e_iconst dX0_begin_80 (by unfold InR; decide) ?_
        have o15 := h.1
        replace h := h.2
        have o16 := h.1
        replace h := h.2
        refine i_VI (μ' := MX4_negative) (ci := 3) (r := x4) (as := [vI 1]) (st := [vR (R60 (R60 (R60 (R60 x0 5) (Int.toNat (I60 x0 4))) 2) (Int.toNat x5))]) rfl dX0_begin_81 mOKX4_negative ⟨mlX0_73, imX4_negative, seX4_negative⟩ (by decide) (Nat.le_of_ble_eq_true rfl) rfl (Nat.le_of_ble_eq_true rfl) ⟨by decide, rfl⟩ o15 (sX4_negative o16 ?_)
        have o17 := h.1
        replace h := h.2
        refine i_VV (μ' := MX5_becomeNumber) (ci := 4) (r := (R60 (R60 (R60 (R60 x0 5) (Int.toNat (I60 x0 4))) 2) (Int.toNat x5))) (as := [vI (vX4_negative I60 x4 1)]) (st := []) rfl dX0_begin_84 mOKX5_becomeNumber ⟨mlX0_79, imX5_becomeNumber, seX5_becomeNumber⟩ (by decide) (Nat.le_of_ble_eq_true rfl) rfl (Nat.le_of_ble_eq_true rfl) ⟨by decide, rfl⟩ o17 (CV.mono h ?_)
        clear h
        intro S84 I84 R84 h
        refine e_aload_n 0 dX0_begin_87 rfl ?_
        refine e_dup dX0_begin_88 rfl ?_
        have o18 := h.1
        replace h := h.2
        refine e_getI dX0_begin_89 flX0_64 rfl o18 ?_
        refine e_iconst dX0_begin_92 (by unfold InR; decide) ?_
        refine e_iadd dX0_begin_93 ?_
        obtain ⟨I94, eI94⟩ : ∃ z : MI, z = up2 I84 x0 4 (w32 ((I84 x0 4) + 1)) := ⟨_, rfl⟩
        replace h := h I94 eI94
        refine e_putI dX0_begin_94 flX0_64 rfl (Or.inl rfl) o18 (eqI eI94 ?_)
        refine e_iinc (ls2 := [(5, vI (w32 (x5 + 1))), (0, vR x0), (1, vR x1), (2, vI x2), (3, vI x3), (4, vR x4)]) 5 dX0_begin_97 rfl (by decide) rfl ?_
        refine e_goto (tgt := 23) dX0_begin_100 (by decide) ?_
        exact e_sub (ls2 := [(0, vR x0), (1, vR x1), (2, vI x2), (3, vI x3), (4, vR x4), (5, vI (w32 (x5 + 1)))]) [1, 2, 3, 4, 5, 0] rfl h
set_option maxRecDepth 100000 in
set_option maxHeartbeats 4000000 in
theorem bX0_begin_103 {G : Gl} {S : Sh} {I : MI} {R : MR} {Q : Sh → MI → MR → Prop} {x0 : Nat} {x1 : Nat} {x2 : Int} (h : ((x2 < 0 → Q S I R) ∧ (¬ (x2 < 0) → (21 ≤ sT S x1 ∧ (((sL S x1 : Int) ≤ x2 → Q S I R) ∧ (¬ ((sL S x1 : Int) ≤ x2) → (sT S x0 = 1 ∧ (sT S x1 = 24 ∧ (((0 : Int) ≤ x2 ∧ x2 < (sL S x1 : Int)) ∧ (sT S (R x0 7) = 2 ∧ (CV G MX1_begin [vR (R x0 7), vR (R x1 (Int.toNat x2))] S I R (fun S120 I120 R120 => (sT S120 x0 = 1 ∧ (sT S120 (R120 x0 7) = 2 ∧ (sT S120 (R120 (R120 x0 7) 1) = 5 ∧ (CV G MX5_becomeNumber [vR (R120 (R120 x0 7) 1), vI 1] S120 I120 R120 (fun S131 I131 R131 => Q S131 I131 R131))))))))))))))))) : LX0_begin_103 G x0 x1 x2 S I R Q := by
  show E G MX0_begin 103 [(0, vR x0), (1, vR x1), (2, vI x2)] [] S I R (qV Q)
  refine e_iload_n 2 dX0_begin_103 rfl ?_
  refine e_if_lt (tgt := 134) dX0_begin_104 (by decide) (fun c => ?_) (fun c => ?_)
  · replace h := h.1 c
    exact e_return dX0_begin_134 rfl ⟨rfl, h⟩
  · replace h := h.2 c
    refine e_iload_n 2 dX0_begin_107 rfl ?_
    refine e_aload_n 1 dX0_begin_108 rfl ?_
    have o19 := h.1
    replace h := h.2
    refine e_alen dX0_begin_109 o19 ?_
    refine e_icmp_ge (tgt := 134) dX0_begin_110 (by decide) (fun c => ?_) (fun c => ?_)
    · replace h := h.1 c
      exact e_return dX0_begin_134 rfl ⟨rfl, h⟩
    · replace h := h.2 c
      refine e_aload_n 0 dX0_begin_113 rfl ?_
      have o20 := h.1
      replace h := h.2
      refine e_getR dX0_begin_114 flX0_23 rfl o20 ?_
      refine e_aload_n 1 dX0_begin_117 rfl ?_
      refine e_iload_n 2 dX0_begin_118 rfl ?_
      have o21 := h.1
      replace h := h.2
      have o22 := h.1
      replace h := h.2
      refine e_aald (t := 24) dX0_begin_119 o21 (by decide) (by decide) o22 ?_
      have o23 := h.1
      replace h := h.2
      refine i_VV (μ' := MX1_begin) (ci := 1) (r := (R x0 7)) (as := [vR (R x1 (Int.toNat x2))]) (st := []) rfl dX0_begin_120 mOKX1_begin ⟨mlX0_70, imX1_begin, seX1_begin⟩ (by decide) (Nat.le_of_ble_eq_true rfl) rfl (Nat.le_of_ble_eq_true rfl) ⟨by decide, rfl⟩ o23 (CV.mono h ?_)
      clear h
      intro S120 I120 R120 h
      refine e_aload_n 0 dX0_begin_123 rfl ?_
      have o24 := h.1
      replace h := h.2
      refine e_getR dX0_begin_124 flX0_23 rfl o24 ?_
      have o25 := h.1
      replace h := h.2
      refine e_getR dX0_begin_127 flX0_54 rfl o25 ?_
      refine e_iconst dX0_begin_130 (by unfold InR; decide) ?_
      have o26 := h.1
      replace h := h.2
      refine i_VV (μ' := MX5_becomeNumber) (ci := 4) (r := (R120 (R120 x0 7) 1)) (as := [vI 1]) (st := []) rfl dX0_begin_131 mOKX5_becomeNumber ⟨mlX0_79, imX5_becomeNumber, seX5_becomeNumber⟩ (by decide) (Nat.le_of_ble_eq_true rfl) rfl (Nat.le_of_ble_eq_true rfl) ⟨by decide, rfl⟩ o26 (CV.mono h ?_)
      clear h
      intro S131 I131 R131 h
      exact e_return dX0_begin_134 rfl ⟨rfl, h⟩

def LX0_bestDivisor_21 (G : Gl) (x0 : Nat) (x1 : Int) (x2 : Int) (x3 : Int) (S : Sh) (I : MI) (R : MR) (Q : Sh → MI → MR → Int → Prop) : Prop := E G MX0_bestDivisor 21 [(0, vR x0), (1, vI x1), (2, vI x2), (3, vI x3)] [] S I R (qI Q)
def LX0_bestDivisor_84 (G : Gl) (x0 : Nat) (x1 : Int) (x2 : Int) (x3 : Int) (x4 : Nat) (y0 : Int) (S : Sh) (I : MI) (R : MR) (Q : Sh → MI → MR → Int → Prop) : Prop := E G MX0_bestDivisor 84 [(0, vR x0), (1, vI x1), (2, vI x2), (3, vI x3), (4, vR x4)] [vI y0] S I R (qI Q)
set_option maxRecDepth 100000 in
set_option maxHeartbeats 4000000 in
theorem bX0_bestDivisor {G : Gl} {S : Sh} {I : MI} {R : MR} {Q : Sh → MI → MR → Int → Prop} {x0 : Nat} (h : (sT S x0 = 1 ∧ (sT S (R x0 7) = 2 ∧ (sT S (R (R x0 7) 0) = 5 ∧ (((I (R (R x0 7) 0) 2) ≠ 0 → LX0_bestDivisor_21 G x0 (-1) 0 0 S I R Q) ∧ (¬ ((I (R (R x0 7) 0) 2) ≠ 0) → Q S I R (-1))))))) : CI G MX0_bestDivisor [vR x0] S I R Q := by
  show E G MX0_bestDivisor 0 [(0, vR x0)] [] S I R (qI Q)
  refine e_aload_n 0 dX0_bestDivisor_0 rfl ?_
  have o1 := h.1
  replace h := h.2
  refine e_getR dX0_bestDivisor_1 flX0_23 rfl o1 ?_
  have o2 := h.1
  replace h := h.2
  refine e_getR dX0_bestDivisor_4 flX0_50 rfl o2 ?_
  have o3 := h.1
  replace h := h.2
  refine e_getI dX0_bestDivisor_7 flX0_85 rfl o3 ?_
  refine e_if_ne (tgt := 15) dX0_bestDivisor_10 (by decide) (fun c => ?_) (fun c => ?_)
  · replace h := h.1 c
    refine e_iconst dX0_bestDivisor_15 (by unfold InR; decide) ?_
    refine e_istore_n (ls2 := [(1, vI (-1)), (0, vR x0)]) dX0_bestDivisor_16 (by decide) rfl ?_
    refine e_iconst dX0_bestDivisor_17 (by unfold InR; decide) ?_
    refine e_istore_n (ls2 := [(2, vI 0), (1, vI (-1)), (0, vR x0)]) dX0_bestDivisor_18 (by decide) rfl ?_
    refine e_iconst dX0_bestDivisor_19 (by unfold InR; decide) ?_
    refine e_istore_n (ls2 := [(3, vI 0), (2, vI 0), (1, vI (-1)), (0, vR x0)]) dX0_bestDivisor_20 (by decide) rfl ?_
    exact e_sub (ls2 := [(0, vR x0), (1, vI (-1)), (2, vI 0), (3, vI 0)]) [3, 2, 1, 0] rfl h
  · replace h := h.2 c
    refine e_iconst dX0_bestDivisor_13 (by unfold InR; decide) ?_
    exact e_ireturn dX0_bestDivisor_14 rfl ⟨_, rfl, h⟩
set_option maxRecDepth 100000 in
set_option maxHeartbeats 4000000 in
theorem bX0_bestDivisor_21 {G : Gl} {S : Sh} {I : MI} {R : MR} {Q : Sh → MI → MR → Int → Prop} {x0 : Nat} {x1 : Int} {x2 : Int} {x3 : Int} (h : (sT S x0 = 1 ∧ (((I x0 4) ≤ x3 → Q S I R x1) ∧ (¬ ((I x0 4) ≤ x3) → ((20 ≤ x3 → Q S I R x1) ∧ (¬ (20 ≤ x3) → (sT S (R x0 5) = 25 ∧ (((0 : Int) ≤ x3 ∧ x3 < (sL S (R x0 5) : Int)) ∧ (sT S (R (R x0 5) (Int.toNat x3)) = 2 ∧ (sT S (R (R (R x0 5) (Int.toNat x3)) 0) = 5 ∧ (((I (R (R (R x0 5) (Int.toNat x3)) 0) 2) ≤ 0 → LX0_bestDivisor_84 G x0 x1 x2 x3 (R (R (R x0 5) (Int.toNat x3)) 0) 0 S I R Q) ∧ (¬ ((I (R (R (R x0 5) (Int.toNat x3)) 0) 2) ≤ 0) → (sT S (R (R (R (R x0 5) (Int.toNat x3)) 0) 0) = 21 ∧ (((0 : Int) ≤ 0 ∧ 0 < (sL S (R (R (R (R x0 5) (Int.toNat x3)) 0) 0) : Int)) ∧ (sT S (R x0 7) = 2 ∧ (sT S (R (R x0 7) 0) = 5 ∧ (sT S (R (R (R x0 7) 0) 0) = 21 ∧ (((0 : Int) ≤ 0 ∧ 0 < (sL S (R (R (R x0 7) 0) 0) : Int)) ∧ (((vX3_divides (I (R (R (R (R x0 5) (Int.toNat x3)) 0) 0) (Int.toNat 0)) (I (R (R (R x0 7) 0) 0) (Int.toNat 0))) = 0 → LX0_bestDivisor_84 G x0 x1 x2 x3 (R (R (R x0 5) (Int.toNat x3)) 0) 0 S I R Q) ∧ (¬ ((vX3_divides (I (R (R (R (R x0 5) (Int.toNat x3)) 0) 0) (Int.toNat 0)) (I (R (R (R x0 7) 0) 0) (Int.toNat 0))) = 0) → LX0_bestDivisor_84 G x0 x1 x2 x3 (R (R (R x0 5) (Int.toNat x3)) 0) 1 S I R Q)))))))))))))))))))) : LX0_bestDivisor_21 G x0 x1 x2 x3 S I R Q := by
  show E G MX0_bestDivisor 21 [(0, vR x0), (1, vI x1), (2, vI x2), (3, vI x3)] [] S I R (qI Q)
  refine e_iload_n 3 dX0_bestDivisor_21 rfl ?_
  refine e_aload_n 0 dX0_bestDivisor_22 rfl ?_
  have o4 := h.1
  replace h := h.2
  refine e_getI dX0_bestDivisor_23 flX0_64 rfl o4 ?_
  refine e_icmp_ge (tgt := 119) dX0_bestDivisor_26 (by decide) (fun c => ?_) (fun c => ?_)
  · replace h := h.1 c
    refine e_iload_n 1 dX0_bestDivisor_119 rfl ?_
    exact e_ireturn dX0_bestDivisor_120 rfl ⟨_, rfl, h⟩
  · replace h := h.2 c
    refine e_iload_n 3 dX0_bestDivisor_29 rfl ?_
    refine e_bipush (x := 20) dX0_bestDivisor_30 ⟨by decide +kernel, by unfold InR; decide⟩ ?_
    refine e_icmp_ge (tgt := 119) dX0_bestDivisor_32 (by decide) (fun c => ?_) (fun c => ?_)
    · replace h := h.1 c
      refine e_iload_n 1 dX0_bestDivisor_119 rfl ?_
      exact e_ireturn dX0_bestDivisor_120 rfl ⟨_, rfl, h⟩
    · replace h := h.2 c
      refine e_aload_n 0 dX0_bestDivisor_35 rfl ?_
      refine e_getR dX0_bestDivisor_36 flX0_11 rfl o4 ?_
      refine e_iload_n 3 dX0_bestDivisor_39 rfl ?_
      have o5 := h.1
      replace h := h.2
      have o6 := h.1
      replace h := h.2
      refine e_aald (t := 25) dX0_bestDivisor_40 o5 (by decide) (by decide) o6 ?_
      have o7 := h.1
      replace h := h.2
      refine e_getR dX0_bestDivisor_41 flX0_50 rfl o7 ?_
      refine e_astore (ls2 := [(4, vR (R (R (R x0 5) (Int.toNat x3)) 0)), (0, vR x0), (1, vI x1), (2, vI x2), (3, vI x3)]) dX0_bestDivisor_44 (by decide) rfl ?_
      refine e_aload 0 dX0_bestDivisor_46 rfl ?_
      have o8 := h.1
      replace h := h.2
      refine e_getI dX0_bestDivisor_48 flX0_85 rfl o8 ?_
      refine e_if_le (tgt := 83) dX0_bestDivisor_51 (by decide) (fun c => ?_) (fun c => ?_)
      · replace h := h.1 c
        refine e_iconst dX0_bestDivisor_83 (by unfold InR; decide) ?_
        exact e_sub (ls2 := [(0, vR x0), (1, vI x1), (2, vI x2), (3, vI x3), (4, vR (R (R (R x0 5) (Int.toNat x3)) 0))]) [1, 2, 3, 4, 0] rfl h
      · replace h := h.2 c
        refine e_aload 0 dX0_bestDivisor_54 rfl ?_
        refine e_getR dX0_bestDivisor_56 flX0_88 rfl o8 ?_
        refine e_iconst dX0_bestDivisor_59 (by unfold InR; decide) ?_
        have o9 := h.1
        replace h := h.2
        have o10 := h.1
        replace h := h.2
        refine e_iald dX0_bestDivisor_60 o9 o10 ?_
        refine e_aload_n 1 dX0_bestDivisor_61 rfl ?_
        refine e_getR dX0_bestDivisor_62 flX0_23 rfl o4 ?_
        have o11 := h.1
        replace h := h.2
        refine e_getR dX0_bestDivisor_65 flX0_50 rfl o11 ?_
        have o12 := h.1
        replace h := h.2
        refine e_getR dX0_bestDivisor_68 flX0_88 rfl o12 ?_
        refine e_iconst dX0_bestDivisor_71 (by unfold InR; decide) ?_
        have o13 := h.1
        replace h := h.2
        have o14 := h.1
        replace h := h.2
        refine e_iald dX0_bestDivisor_72 o13 o14 ?_
        refine i_SI (μ' := MX3_divides) (as := [vI (I (R (R (R (R x0 5) (Int.toNat x3)) 0) 0) (Int.toNat 0)), vI (I (R (R (R x0 7) 0) 0) (Int.toNat 0))]) (st := []) rfl dX0_bestDivisor_73 mOKX3_divides ⟨mlX0_92, stX3_divides⟩ (by decide) (Nat.le_of_ble_eq_true rfl) rfl (Nat.le_of_ble_eq_true rfl) (sX3_divides ?_)
        refine e_if_eq (tgt := 83) dX0_bestDivisor_76 (by decide) (fun c => ?_) (fun c => ?_)
        · replace h := h.1 c
          refine e_iconst dX0_bestDivisor_83 (by unfold InR; decide) ?_
          exact e_sub (ls2 := [(0, vR x0), (1, vI x1), (2, vI x2), (3, vI x3), (4, vR (R (R (R x0 5) (Int.toNat x3)) 0))]) [1, 2, 3, 4, 0] rfl h
        · replace h := h.2 c
          refine e_iconst dX0_bestDivisor_79 (by unfold InR; decide) ?_
          refine e_goto (tgt := 84) dX0_bestDivisor_80 (by decide) ?_
          exact e_sub (ls2 := [(0, vR x0), (1, vI x1), (2, vI x2), (3, vI x3), (4, vR (R (R (R x0 5) (Int.toNat x3)) 0))]) [1, 2, 3, 4, 0] rfl h
set_option maxRecDepth 100000 in
set_option maxHeartbeats 4000000 in
theorem bX0_bestDivisor_84 {G : Gl} {S : Sh} {I : MI} {R : MR} {Q : Sh → MI → MR → Int → Prop} {x0 : Nat} {x1 : Int} {x2 : Int} {x3 : Int} {x4 : Nat} {y0 : Int} (h : ((y0 = 0 → LX0_bestDivisor_21 G x0 x1 x2 (w32 (x3 + 1)) S I R Q) ∧ (¬ (y0 = 0) → ((x1 = (-1) → (sT S x4 = 5 ∧ ((pX5_ecart S I R x4) ∧ LX0_bestDivisor_21 G x0 x3 (vX5_ecart I R x4) (w32 (x3 + 1)) S I R Q))) ∧ (¬ (x1 = (-1)) → (sT S x4 = 5 ∧ ((pX5_ecart S I R x4) ∧ ((x2 ≤ (vX5_ecart I R x4) → LX0_bestDivisor_21 G x0 x1 x2 (w32 (x3 + 1)) S I R Q) ∧ (¬ (x2 ≤ (vX5_ecart I R x4)) → LX0_bestDivisor_21 G x0 x3 (vX5_ecart I R x4) (w32 (x3 + 1)) S I R Q))))))))) : LX0_bestDivisor_84 G x0 x1 x2 x3 x4 y0 S I R Q := by
  show E G MX0_bestDivisor 84 [(0, vR x0), (1, vI x1), (2, vI x2), (3, vI x3), (4, vR x4)] [vI y0] S I R (qI Q)
  refine e_istore (ls2 := [(5, vI y0), (0, vR x0), (1, vI x1), (2, vI x2), (3, vI x3), (4, vR x4)]) dX0_bestDivisor_84 (by decide) rfl ?_
  refine e_iload 0 dX0_bestDivisor_86 rfl ?_
  refine e_if_eq (tgt := 113) dX0_bestDivisor_88 (by decide) (fun c => ?_) (fun c => ?_)
  · replace h := h.1 c
    refine e_iinc (ls2 := [(3, vI (w32 (x3 + 1))), (5, vI y0), (0, vR x0), (1, vI x1), (2, vI x2), (4, vR x4)]) 4 dX0_bestDivisor_113 rfl (by decide) rfl ?_
    refine e_goto (tgt := 21) dX0_bestDivisor_116 (by decide) ?_
    exact e_sub (ls2 := [(0, vR x0), (1, vI x1), (2, vI x2), (3, vI (w32 (x3 + 1)))]) [2, 3, 4, 0] rfl h
  · replace h := h.2 c
    refine e_iload_n 2 dX0_bestDivisor_91 rfl ?_
    refine e_iconst dX0_bestDivisor_92 (by unfold InR; decide) ?_
    refine e_icmp_eq (tgt := 105) dX0_bestDivisor_93 (by decide) (fun c => ?_) (fun c => ?_)
    · replace h := h.1 c
      refine e_iload_n 4 dX0_bestDivisor_105 rfl ?_
      refine e_istore_n (ls2 := [(1, vI x3), (5, vI y0), (0, vR x0), (2, vI x2), (3, vI x3), (4, vR x4)]) dX0_bestDivisor_106 (by decide) rfl ?_
      refine e_aload 5 dX0_bestDivisor_107 rfl ?_
      have o15 := h.1
      replace h := h.2
      have o16 := h.1
      replace h := h.2
      refine i_VI (μ' := MX5_ecart) (ci := 4) (r := x4) (as := []) (st := []) rfl dX0_bestDivisor_109 mOKX5_ecart ⟨mlX0_98, imX5_ecart, seX5_ecart⟩ (by decide) (Nat.le_of_ble_eq_true rfl) rfl (Nat.le_of_ble_eq_true rfl) ⟨by decide, rfl⟩ o15 (sX5_ecart o16 ?_)
      refine e_istore_n (ls2 := [(2, vI (vX5_ecart I R x4)), (1, vI x3), (5, vI y0), (0, vR x0), (3, vI x3), (4, vR x4)]) dX0_bestDivisor_112 (by decide) rfl ?_
      refine e_iinc (ls2 := [(3, vI (w32 (x3 + 1))), (2, vI (vX5_ecart I R x4)), (1, vI x3), (5, vI y0), (0, vR x0), (4, vR x4)]) 4 dX0_bestDivisor_113 rfl (by decide) rfl ?_
      refine e_goto (tgt := 21) dX0_bestDivisor_116 (by decide) ?_
      exact e_sub (ls2 := [(0, vR x0), (1, vI x3), (2, vI (vX5_ecart I R x4)), (3, vI (w32 (x3 + 1)))]) [4, 2, 1, 0] rfl h
    · replace h := h.2 c
      refine e_aload 5 dX0_bestDivisor_96 rfl ?_
      have o17 := h.1
      replace h := h.2
      have o18 := h.1
      replace h := h.2
      refine i_VI (μ' := MX5_ecart) (ci := 4) (r := x4) (as := []) (st := []) rfl dX0_bestDivisor_98 mOKX5_ecart ⟨mlX0_98, imX5_ecart, seX5_ecart⟩ (by decide) (Nat.le_of_ble_eq_true rfl) rfl (Nat.le_of_ble_eq_true rfl) ⟨by decide, rfl⟩ o17 (sX5_ecart o18 ?_)
      refine e_iload_n 3 dX0_bestDivisor_101 rfl ?_
      refine e_icmp_ge (tgt := 113) dX0_bestDivisor_102 (by decide) (fun c => ?_) (fun c => ?_)
      · replace h := h.1 c
        refine e_iinc (ls2 := [(3, vI (w32 (x3 + 1))), (5, vI y0), (0, vR x0), (1, vI x1), (2, vI x2), (4, vR x4)]) 4 dX0_bestDivisor_113 rfl (by decide) rfl ?_
        refine e_goto (tgt := 21) dX0_bestDivisor_116 (by decide) ?_
        exact e_sub (ls2 := [(0, vR x0), (1, vI x1), (2, vI x2), (3, vI (w32 (x3 + 1)))]) [2, 3, 4, 0] rfl h
      · replace h := h.2 c
        refine e_iload_n 4 dX0_bestDivisor_105 rfl ?_
        refine e_istore_n (ls2 := [(1, vI x3), (5, vI y0), (0, vR x0), (2, vI x2), (3, vI x3), (4, vR x4)]) dX0_bestDivisor_106 (by decide) rfl ?_
        refine e_aload 5 dX0_bestDivisor_107 rfl ?_
        refine i_VI (μ' := MX5_ecart) (ci := 4) (r := x4) (as := []) (st := []) rfl dX0_bestDivisor_109 mOKX5_ecart ⟨mlX0_98, imX5_ecart, seX5_ecart⟩ (by decide) (Nat.le_of_ble_eq_true rfl) rfl (Nat.le_of_ble_eq_true rfl) ⟨by decide, rfl⟩ o17 (sX5_ecart o18 ?_)
        refine e_istore_n (ls2 := [(2, vI (vX5_ecart I R x4)), (1, vI x3), (5, vI y0), (0, vR x0), (3, vI x3), (4, vR x4)]) dX0_bestDivisor_112 (by decide) rfl ?_
        refine e_iinc (ls2 := [(3, vI (w32 (x3 + 1))), (2, vI (vX5_ecart I R x4)), (1, vI x3), (5, vI y0), (0, vR x0), (4, vR x4)]) 4 dX0_bestDivisor_113 rfl (by decide) rfl ?_
        refine e_goto (tgt := 21) dX0_bestDivisor_116 (by decide) ?_
        exact e_sub (ls2 := [(0, vR x0), (1, vI x3), (2, vI (vX5_ecart I R x4)), (3, vI (w32 (x3 + 1)))]) [4, 2, 1, 0] rfl h

set_option maxRecDepth 100000 in
set_option maxHeartbeats 4000000 in
theorem bX0_subtract {G : Gl} {S : Sh} {I : MI} {R : MR} {Q : Sh → MI → MR → Int → Prop} {x0 : Nat} {x1 : Nat} {x2 : Nat} (h : (sT S x0 = 1 ∧ (sT S (R x0 7) = 2 ∧ (sT S (R (R x0 7) 0) = 5 ∧ (((I (R (R x0 7) 0) 2) = 0 → Q S I R 0) ∧ (¬ ((I (R (R x0 7) 0) 2) = 0) → (sT S x1 = 2 ∧ (sT S (R x1 0) = 5 ∧ (((I (R x1 0) 2) ≠ 0 → (sT S (R (R (R x0 7) 0) 1) = 21 ∧ (((0 : Int) ≤ 0 ∧ 0 < (sL S (R (R (R x0 7) 0) 1) : Int)) ∧ (sT S (R (R x1 0) 1) = 21 ∧ (((0 : Int) ≤ 0 ∧ 0 < (sL S (R (R x1 0) 1) : Int)) ∧ (sT S x2 = 4 ∧ (CI G MX4_inverse [vR x2, vI (I (R (R x1 0) 1) (Int.toNat 0))] S I R (fun S48 I48 R48 x48_ => (sT S48 x2 = 4 ∧ ((pX4_times S48 I48 x2 (I (R (R (R x0 7) 0) 1) (Int.toNat 0)) x48_) ∧ (sT S48 x0 = 1 ∧ (sT S48 (R48 x0 7) = 2 ∧ (sT S48 (R48 (R48 x0 7) 0) = 5 ∧ (sT S48 (R48 (R48 (R48 x0 7) 0) 0) = 21 ∧ (((0 : Int) ≤ 0 ∧ 0 < (sL S48 (R48 (R48 (R48 x0 7) 0) 0) : Int)) ∧ (sT S48 x1 = 2 ∧ (sT S48 (R48 x1 0) = 5 ∧ (sT S48 (R48 (R48 x1 0) 0) = 21 ∧ (((0 : Int) ≤ 0 ∧ 0 < (sL S48 (R48 (R48 x1 0) 0) : Int)) ∧ ((pX4_negative S48 x2 (vX4_times I48 x2 (I (R (R (R x0 7) 0) 1) (Int.toNat 0)) x48_)) ∧ (sT S48 (R48 x0 8) = 2 ∧ (CI G MX1_mix [vR (R48 x0 8), vR (R48 x0 7), vI (vX4_negative I48 x2 (vX4_times I48 x2 (I (R (R (R x0 7) 0) 1) (Int.toNat 0)) x48_)), vI (vX3_by (I48 (R48 (R48 (R48 x0 7) 0) 0) (Int.toNat 0)) (I48 (R48 (R48 x1 0) 0) (Int.toNat 0))), vR x1, vR x2] S48 I48 R48 (fun S98 I98 R98 x98_ => (sT S98 x0 = 1 ∧ (∀ R114, R114 = up2 R98 x0 7 (R98 x0 8) → (∀ R120, R120 = up2 R114 x0 8 (R98 x0 7) → ((x98_ = 0 ∨ x98_ = 1) ∧ Q S98 I98 R120 x98_))))))))))))))))))))))))))) ∧ (¬ ((I (R x1 0) 2) ≠ 0) → Q S I R 0)))))))))) : CI G MX0_subtract [vR x0, vR x1, vR x2] S I R Q := by
  show E G MX0_subtract 0 [(0, vR x0), (1, vR x1), (2, vR x2)] [] S I R (qI Q)
  refine e_aload_n 0 dX0_subtract_0 rfl ?_
  have o1 := h.1
  replace h := h.2
  refine e_getR dX0_subtract_1 flX0_23 rfl o1 ?_
  have o2 := h.1
  replace h := h.2
  refine e_getR dX0_subtract_4 flX0_50 rfl o2 ?_
  have o3 := h.1
  replace h := h.2
  refine e_getI dX0_subtract_7 flX0_85 rfl o3 ?_
  refine e_if_eq (tgt := 23) dX0_subtract_10 (by decide) (fun c => ?_) (fun c => ?_)
  · replace h := h.1 c
    refine e_iconst dX0_subtract_23 (by unfold InR; decide) ?_
    exact e_zreturn dX0_subtract_24 rfl (by decide) ⟨_, rfl, h⟩
  · replace h := h.2 c
    refine e_aload_n 1 dX0_subtract_13 rfl ?_
    have o4 := h.1
    replace h := h.2
    refine e_getR dX0_subtract_14 flX0_50 rfl o4 ?_
    have o5 := h.1
    replace h := h.2
    refine e_getI dX0_subtract_17 flX0_85 rfl o5 ?_
    refine e_if_ne (tgt := 25) dX0_subtract_20 (by decide) (fun c => ?_) (fun c => ?_)
    · replace h := h.1 c
      refine e_aload_n 2 dX0_subtract_25 rfl ?_
      refine e_aload_n 0 dX0_subtract_26 rfl ?_
      refine e_getR dX0_subtract_27 flX0_23 rfl o1 ?_
      refine e_getR dX0_subtract_30 flX0_50 rfl o2 ?_
      refine e_getR dX0_subtract_33 flX0_112 rfl o3 ?_
      refine e_iconst dX0_subtract_36 (by unfold InR; decide) ?_
      have o6 := h.1
      replace h := h.2
      have o7 := h.1
      replace h := h.2
      refine e_iald dX0_subtract_37 o6 o7 ?_
      refine e_aload_n 2 dX0_subtract_38 rfl ?_
      refine e_aload_n 1 dX0_subtract_39 rfl ?_
      refine e_getR dX0_subtract_40 flX0_50 rfl o4 ?_
      refine e_getR dX0_subtract_43 flX0_112 rfl o5 ?_
      refine e_iconst dX0_subtract_46 (by unfold InR; decide) ?_
      have o8 := h.1
      replace h := h.2
      have o9 := h.1
      replace h := h.2
      refine e_iald dX0_subtract_47 o8 o9 ?_
      have o10 := h.1
      replace h := h.2
      refine i_VI (μ' := MX4_inverse) (ci := 3) (r := x2) (as := [vI (I (R (R x1 0) 1) (Int.toNat 0))]) (st := [vI (I (R (R (R x0 7) 0) 1) (Int.toNat 0)), vR x2]) rfl dX0_subtract_48 mOKX4_inverse ⟨mlX0_115, imX4_inverse, seX4_inverse⟩ (by decide) (Nat.le_of_ble_eq_true rfl) rfl (Nat.le_of_ble_eq_true rfl) ⟨by decide, rfl⟩ o10 (CI.mono h ?_)
      clear h
      intro S48 I48 R48 x48_ h
      have o11 := h.1
      replace h := h.2
      have o12 := h.1
      replace h := h.2
      refine i_VI (μ' := MX4_times) (ci := 3) (r := x2) (as := [vI (I (R (R (R x0 7) 0) 1) (Int.toNat 0)), vI x48_]) (st := []) rfl dX0_subtract_51 mOKX4_times ⟨mlX0_118, imX4_times, seX4_times⟩ (by decide) (Nat.le_of_ble_eq_true rfl) rfl (Nat.le_of_ble_eq_true rfl) ⟨by decide, rfl⟩ o11 (sX4_times o12 ?_)
      refine e_istore_n (ls2 := [(3, vI (vX4_times I48 x2 (I (R (R (R x0 7) 0) 1) (Int.toNat 0)) x48_)), (0, vR x0), (1, vR x1), (2, vR x2)]) dX0_subtract_54 (by decide) rfl ?_
      refine e_aload_n 1 dX0_subtract_55 rfl ?_
      have o13 := h.1
      replace h := h.2
      refine e_getR dX0_subtract_56 flX0_23 rfl o13 ?_
      have o14 := h.1
      replace h := h.2
      refine e_getR dX0_subtract_59 flX0_50 rfl o14 ?_
      have o15 := h.1
      replace h := h.2
      refine e_getR dX0_subtract_62 flX0_88 rfl o15 ?_
      refine e_iconst dX0_subtract_65 (by unfold InR; decide) ?_
      have o16 := h.1
      replace h := h.2
      have o17 := h.1
      replace h := h.2
      refine e_iald dX0_subtract_66 o16 o17 ?_
      refine e_aload_n 2 dX0_subtract_67 rfl ?_
      have o18 := h.1
      replace h := h.2
      refine e_getR dX0_subtract_68 flX0_50 rfl o18 ?_
      have o19 := h.1
      replace h := h.2
      refine e_getR dX0_subtract_71 flX0_88 rfl o19 ?_
      refine e_iconst dX0_subtract_74 (by unfold InR; decide) ?_
      have o20 := h.1
      replace h := h.2
      have o21 := h.1
      replace h := h.2
      refine e_iald dX0_subtract_75 o20 o21 ?_
      refine i_SI (μ' := MX3_by) (as := [vI (I48 (R48 (R48 (R48 x0 7) 0) 0) (Int.toNat 0)), vI (I48 (R48 (R48 x1 0) 0) (Int.toNat 0))]) (st := []) rfl dX0_subtract_76 mOKX3_by ⟨mlX0_122, stX3_by⟩ (by decide) (Nat.le_of_ble_eq_true rfl) rfl (Nat.le_of_ble_eq_true rfl) (sX3_by ?_)
      refine e_istore (ls2 := [(4, vI (vX3_by (I48 (R48 (R48 (R48 x0 7) 0) 0) (Int.toNat 0)) (I48 (R48 (R48 x1 0) 0) (Int.toNat 0)))), (3, vI (vX4_times I48 x2 (I (R (R (R x0 7) 0) 1) (Int.toNat 0)) x48_)), (0, vR x0), (1, vR x1), (2, vR x2)]) dX0_subtract_79 (by decide) rfl ?_
      refine e_aload_n 2 dX0_subtract_81 rfl ?_
      refine e_getR dX0_subtract_82 flX0_27 rfl o13 ?_
      refine e_aload_n 2 dX0_subtract_85 rfl ?_
      refine e_getR dX0_subtract_86 flX0_23 rfl o13 ?_
      refine e_aload_n 4 dX0_subtract_89 rfl ?_
      refine e_iload_n 1 dX0_subtract_90 rfl ?_
      have o22 := h.1
      replace h := h.2
      refine i_VI (μ' := MX4_negative) (ci := 3) (r := x2) (as := [vI (vX4_times I48 x2 (I (R (R (R x0 7) 0) 1) (Int.toNat 0)) x48_)]) (st := [vR (R48 x0 7), vR (R48 x0 8)]) rfl dX0_subtract_91 mOKX4_negative ⟨mlX0_73, imX4_negative, seX4_negative⟩ (by decide) (Nat.le_of_ble_eq_true rfl) rfl (Nat.le_of_ble_eq_true rfl) ⟨by decide, rfl⟩ o11 (sX4_negative o22 ?_)
      refine e_iload 0 dX0_subtract_94 rfl ?_
      refine e_aload_n 3 dX0_subtract_96 rfl ?_
      refine e_aload_n 4 dX0_subtract_97 rfl ?_
      have o23 := h.1
      replace h := h.2
      refine i_VI (μ' := MX1_mix) (ci := 1) (r := (R48 x0 8)) (as := [vR (R48 x0 7), vI (vX4_negative I48 x2 (vX4_times I48 x2 (I (R (R (R x0 7) 0) 1) (Int.toNat 0)) x48_)), vI (vX3_by (I48 (R48 (R48 (R48 x0 7) 0) 0) (Int.toNat 0)) (I48 (R48 (R48 x1 0) 0) (Int.toNat 0))), vR x1, vR x2]) (st := []) rfl dX0_subtract_98 mOKX1_mix ⟨mlX0_125, imX1_mix, seX1_mix⟩ (by decide) (Nat.le_of_ble_eq_true rfl) rfl (Nat.le_of_ble_eq_true rfl) ⟨by decide, rfl⟩ o23 (CI.mono h ?_)
      clear h
      intro S98 I98 R98 x98_ h
      refine e_istore (ls2 := [(5, vI x98_), (4, vI (vX3_by (I48 (R48 (R48 (R48 x0 7) 0) 0) (Int.toNat 0)) (I48 (R48 (R48 x1 0) 0) (Int.toNat 0)))), (3, vI (vX4_times I48 x2 (I (R (R (R x0 7) 0) 1) (Int.toNat 0)) x48_)), (0, vR x0), (1, vR x1), (2, vR x2)]) dX0_subtract_101 (by decide) rfl ?_
      refine e_aload_n 3 dX0_subtract_103 rfl ?_
      have o24 := h.1
      replace h := h.2
      refine e_getR dX0_subtract_104 flX0_23 rfl o24 ?_
      refine e_astore (ls2 := [(6, vR (R98 x0 7)), (5, vI x98_), (4, vI (vX3_by (I48 (R48 (R48 (R48 x0 7) 0) 0) (Int.toNat 0)) (I48 (R48 (R48 x1 0) 0) (Int.toNat 0)))), (3, vI (vX4_times I48 x2 (I (R (R (R x0 7) 0) 1) (Int.toNat 0)) x48_)), (0, vR x0), (1, vR x1), (2, vR x2)]) dX0_subtract_107 (by decide) rfl ?_
      refine e_aload_n 4 dX0_subtract_109 rfl ?_
      refine e_aload_n 4 dX0_subtract_110 rfl ?_
      refine e_getR dX0_subtract_111 flX0_27 rfl o24 ?_
      obtain ⟨R114, eR114⟩ : ∃ z : MR, z = up2 R98 x0 7 (R98 x0 8) := ⟨_, rfl⟩
      replace h := h R114 eR114
      refine e_putR dX0_subtract_114 flX0_23 rfl (Or.inl rfl) o24 (eqR eR114 ?_)
      refine e_aload_n 4 dX0_subtract_117 rfl ?_
      refine e_aload 0 dX0_subtract_118 rfl ?_
      obtain ⟨R120, eR120⟩ : ∃ z : MR, z = up2 R114 x0 8 (R98 x0 7) := ⟨_, rfl⟩
      replace h := h R120 eR120
      refine e_putR dX0_subtract_120 flX0_27 rfl (Or.inl rfl) o24 (eqR eR120 ?_)
      refine e_iload 1 dX0_subtract_123 rfl ?_
      exact e_zreturn dX0_subtract_125 rfl h.1 ⟨_, rfl, h.2⟩
    · replace h := h.2 c
      refine e_iconst dX0_subtract_23 (by unfold InR; decide) ?_
      exact e_zreturn dX0_subtract_24 rfl (by decide) ⟨_, rfl, h⟩

def LX0_stepBy_73 (G : Gl) (x0 : Nat) (x1 : Int) (x2 : Nat) (x3 : Nat) (x4 : Int) (S : Sh) (I : MI) (R : MR) (Q : Sh → MI → MR → Int → Prop) : Prop := E G MX0_stepBy 73 [(0, vR x0), (1, vI x1), (2, vR x2), (3, vR x3), (4, vI x4)] [] S I R (qI Q)
def LX0_stepBy_144 (G : Gl) (x0 : Nat) (x2 : Nat) (x3 : Nat) (x4 : Int) (y0 : Int) (y1 : Int) (y2 : Nat) (S : Sh) (I : MI) (R : MR) (Q : Sh → MI → MR → Int → Prop) : Prop := E G MX0_stepBy 144 [(0, vR x0), (2, vR x2), (3, vR x3), (4, vI x4)] [vI y0, vI y1, vR y2] S I R (qI Q)
set_option maxRecDepth 100000 in
set_option maxHeartbeats 4000000 in
theorem bX0_stepBy {G : Gl} {S : Sh} {I : MI} {R : MR} {Q : Sh → MI → MR → Int → Prop} {x0 : Nat} {x1 : Int} {x2 : Nat} (h : ((x1 < 0 → Q S I R 0) ∧ (¬ (x1 < 0) → (sT S x0 = 1 ∧ (((I x0 4) ≤ x1 → Q S I R 0) ∧ (¬ ((I x0 4) ≤ x1) → (((I x0 3) < 40 → (sT S (R x0 5) = 25 ∧ (((0 : Int) ≤ x1 ∧ x1 < (sL S (R x0 5) : Int)) ∧ (sT S (R (R x0 5) (Int.toNat x1)) = 2 ∧ (sT S (R (R (R x0 5) (Int.toNat x1)) 0) = 5 ∧ ((pX5_ecart S I R (R (R (R x0 5) (Int.toNat x1)) 0)) ∧ (sT S (R x0 7) = 2 ∧ (sT S (R (R x0 7) 0) = 5 ∧ ((pX5_ecart S I R (R (R x0 7) 0)) ∧ (((vX5_ecart I R (R (R (R x0 5) (Int.toNat x1)) 0)) ≤ (vX5_ecart I R (R (R x0 7) 0)) → LX0_stepBy_73 G x0 x1 x2 (R (R x0 5) (Int.toNat x1)) 0 S I R Q) ∧ (¬ ((vX5_ecart I R (R (R (R x0 5) (Int.toNat x1)) 0)) ≤ (vX5_ecart I R (R (R x0 7) 0))) → (((I x0 4) < 20 → LX0_stepBy_73 G x0 x1 x2 (R (R x0 5) (Int.toNat x1)) 1 S I R Q) ∧ (¬ ((I x0 4) < 20) → Q S I R 0))))))))))))) ∧ (¬ ((I x0 3) < 40) → Q S I R 0)))))))) : CI G MX0_stepBy [vR x0, vI x1, vR x2] S I R Q := by
  show E G MX0_stepBy 0 [(0, vR x0), (1, vI x1), (2, vR x2)] [] S I R (qI Q)
  refine e_iload_n 1 dX0_stepBy_0 rfl ?_
  refine e_if_lt (tgt := 21) dX0_stepBy_1 (by decide) (fun c => ?_) (fun c => ?_)
  · replace h := h.1 c
    refine e_iconst dX0_stepBy_21 (by unfold InR; decide) ?_
    exact e_zreturn dX0_stepBy_22 rfl (by decide) ⟨_, rfl, h⟩
  · replace h := h.2 c
    refine e_iload_n 1 dX0_stepBy_4 rfl ?_
    refine e_aload_n 0 dX0_stepBy_5 rfl ?_
    have o1 := h.1
    replace h := h.2
    refine e_getI dX0_stepBy_6 flX0_64 rfl o1 ?_
    refine e_icmp_ge (tgt := 21) dX0_stepBy_9 (by decide) (fun c => ?_) (fun c => ?_)
    · replace h := h.1 c
      refine e_iconst dX0_stepBy_21 (by unfold InR; decide) ?_
      exact e_zreturn dX0_stepBy_22 rfl (by decide) ⟨_, rfl, h⟩
    · replace h := h.2 c
      refine e_aload_n 0 dX0_stepBy_12 rfl ?_
      refine e_getI dX0_stepBy_13 flX0_46 rfl o1 ?_
      refine e_bipush (x := 40) dX0_stepBy_16 ⟨by decide +kernel, by unfold InR; decide⟩ ?_
      refine e_icmp_lt (tgt := 23) dX0_stepBy_18 (by decide) (fun c => ?_) (fun c => ?_)
      · replace h := h.1 c
        refine e_aload_n 0 dX0_stepBy_23 rfl ?_
        refine e_getR dX0_stepBy_24 flX0_11 rfl o1 ?_
        refine e_iload_n 1 dX0_stepBy_27 rfl ?_
        have o2 := h.1
        replace h := h.2
        have o3 := h.1
        replace h := h.2
        refine e_aald (t := 25) dX0_stepBy_28 o2 (by decide) (by decide) o3 ?_
        refine e_astore_n (ls2 := [(3, vR (R (R x0 5) (Int.toNat x1))), (0, vR x0), (1, vI x1), (2, vR x2)]) dX0_stepBy_29 (by decide) rfl ?_
        refine e_aload_n 0 dX0_stepBy_30 rfl ?_
        have o4 := h.1
        replace h := h.2
        refine e_getR dX0_stepBy_31 flX0_50 rfl o4 ?_
        have o5 := h.1
        replace h := h.2
        have o6 := h.1
        replace h := h.2
        refine i_VI (μ' := MX5_ecart) (ci := 4) (r := (R (R (R x0 5) (Int.toNat x1)) 0)) (as := []) (st := []) rfl dX0_stepBy_34 mOKX5_ecart ⟨mlX0_98, imX5_ecart, seX5_ecart⟩ (by decide) (Nat.le_of_ble_eq_true rfl) rfl (Nat.le_of_ble_eq_true rfl) ⟨by decide, rfl⟩ o5 (sX5_ecart o6 ?_)
        refine e_aload_n 1 dX0_stepBy_37 rfl ?_
        refine e_getR dX0_stepBy_38 flX0_23 rfl o1 ?_
        have o7 := h.1
        replace h := h.2
        refine e_getR dX0_stepBy_41 flX0_50 rfl o7 ?_
        have o8 := h.1
        replace h := h.2
        have o9 := h.1
        replace h := h.2
        refine i_VI (μ' := MX5_ecart) (ci := 4) (r := (R (R x0 7) 0)) (as := []) (st := [vI (vX5_ecart I R (R (R (R x0 5) (Int.toNat x1)) 0))]) rfl dX0_stepBy_44 mOKX5_ecart ⟨mlX0_98, imX5_ecart, seX5_ecart⟩ (by decide) (Nat.le_of_ble_eq_true rfl) rfl (Nat.le_of_ble_eq_true rfl) ⟨by decide, rfl⟩ o8 (sX5_ecart o9 ?_)
        refine e_icmp_le (tgt := 54) dX0_stepBy_47 (by decide) (fun c => ?_) (fun c => ?_)
        · replace h := h.1 c
          refine e_iconst dX0_stepBy_54 (by unfold InR; decide) ?_
          refine e_istore (ls2 := [(4, vI 0), (3, vR (R (R x0 5) (Int.toNat x1))), (0, vR x0), (1, vI x1), (2, vR x2)]) dX0_stepBy_55 (by decide) rfl ?_
          refine e_iload 0 dX0_stepBy_57 rfl ?_
          refine e_if_eq (tgt := 73) dX0_stepBy_59 (by decide) (fun _ => ?_) (fun c => absurd (by decide) c)
          exact e_sub (ls2 := [(0, vR x0), (1, vI x1), (2, vR x2), (3, vR (R (R x0 5) (Int.toNat x1))), (4, vI 0)]) [2, 3, 4, 1, 0] rfl h
        · replace h := h.2 c
          refine e_iconst dX0_stepBy_50 (by unfold InR; decide) ?_
          refine e_goto (tgt := 55) dX0_stepBy_51 (by decide) ?_
          refine e_istore (ls2 := [(4, vI 1), (3, vR (R (R x0 5) (Int.toNat x1))), (0, vR x0), (1, vI x1), (2, vR x2)]) dX0_stepBy_55 (by decide) rfl ?_
          refine e_iload 0 dX0_stepBy_57 rfl ?_
          refine e_if_eq (tgt := 73) dX0_stepBy_59 (by decide) (fun c => absurd c (by decide)) (fun _ => ?_)
          refine e_aload_n 2 dX0_stepBy_62 rfl ?_
          refine e_getI dX0_stepBy_63 flX0_64 rfl o1 ?_
          refine e_bipush (x := 20) dX0_stepBy_66 ⟨by decide +kernel, by unfold InR; decide⟩ ?_
          refine e_icmp_lt (tgt := 73) dX0_stepBy_68 (by decide) (fun c => ?_) (fun c => ?_)
          · replace h := h.1 c
            exact e_sub (ls2 := [(0, vR x0), (1, vI x1), (2, vR x2), (3, vR (R (R x0 5) (Int.toNat x1))), (4, vI 1)]) [2, 3, 4, 1, 0] rfl h
          · replace h := h.2 c
            refine e_iconst dX0_stepBy_71 (by unfold InR; decide) ?_
            exact e_zreturn dX0_stepBy_72 rfl (by decide) ⟨_, rfl, h⟩
      · replace h := h.2 c
        refine e_iconst dX0_stepBy_21 (by unfold InR; decide) ?_
        exact e_zreturn dX0_stepBy_22 rfl (by decide) ⟨_, rfl, h⟩
set_option maxRecDepth 100000 in
set_option maxHeartbeats 4000000 in
theorem bX0_stepBy_73 {G : Gl} {S : Sh} {I : MI} {R : MR} {Q : Sh → MI → MR → Int → Prop} {x0 : Nat} {x1 : Int} {x2 : Nat} {x3 : Nat} {x4 : Int} (h : (sT S x0 = 1 ∧ (sT S (R x0 6) = 27 ∧ (((0 : Int) ≤ (I x0 3) ∧ (I x0 3) < (sL S (R x0 6) : Int)) ∧ (sT S (R (R x0 6) (Int.toNat (I x0 3))) = 21 ∧ (((0 : Int) ≤ 0 ∧ 0 < (sL S (R (R x0 6) (Int.toNat (I x0 3))) : Int)) ∧ (∀ I84, I84 = up2 I (R (R x0 6) (Int.toNat (I x0 3))) (Int.toNat 0) x1 → (((0 : Int) ≤ (I84 x0 3) ∧ (I84 x0 3) < (sL S (R x0 6) : Int)) ∧ (sT S x3 = 2 ∧ (sT S (R x3 0) = 5 ∧ ((pX5_ecart S I84 R (R x3 0)) ∧ (sT S (R (R x0 6) (Int.toNat (I84 x0 3))) = 21 ∧ (((0 : Int) ≤ 1 ∧ 1 < (sL S (R (R x0 6) (Int.toNat (I84 x0 3))) : Int)) ∧ (∀ I102, I102 = up2 I84 (R (R x0 6) (Int.toNat (I84 x0 3))) (Int.toNat 1) (vX5_ecart I84 R (R x3 0)) → (((0 : Int) ≤ (I102 x0 3) ∧ (I102 x0 3) < (sL S (R x0 6) : Int)) ∧ (sT S (R x0 7) = 2 ∧ (sT S (R (R x0 7) 0) = 5 ∧ ((pX5_ecart S I102 R (R (R x0 7) 0)) ∧ (sT S (R (R x0 6) (Int.toNat (I102 x0 3))) = 21 ∧ (((0 : Int) ≤ 2 ∧ 2 < (sL S (R (R x0 6) (Int.toNat (I102 x0 3))) : Int)) ∧ (∀ I123, I123 = up2 I102 (R (R x0 6) (Int.toNat (I102 x0 3))) (Int.toNat 2) (vX5_ecart I102 R (R (R x0 7) 0)) → (((0 : Int) ≤ (I123 x0 3) ∧ (I123 x0 3) < (sL S (R x0 6) : Int)) ∧ ((x4 = 0 → LX0_stepBy_144 G x0 x2 x3 x4 0 3 (R (R x0 6) (Int.toNat (I123 x0 3))) S I123 R Q) ∧ (¬ (x4 = 0) → LX0_stepBy_144 G x0 x2 x3 x4 1 3 (R (R x0 6) (Int.toNat (I123 x0 3))) S I123 R Q)))))))))))))))))))))))) : LX0_stepBy_73 G x0 x1 x2 x3 x4 S I R Q := by
  show E G MX0_stepBy 73 [(0, vR x0), (1, vI x1), (2, vR x2), (3, vR x3), (4, vI x4)] [] S I R (qI Q)
  refine e_aload_n 0 dX0_stepBy_73 rfl ?_
  have o10 := h.1
  replace h := h.2
  refine e_getR dX0_stepBy_74 flX0_19 rfl o10 ?_
  refine e_aload_n 0 dX0_stepBy_77 rfl ?_
  refine e_getI dX0_stepBy_78 flX0_46 rfl o10 ?_
  have o11 := h.1
  replace h := h.2
  have o12 := h.1
  replace h := h.2
  refine e_aald (t := 27) dX0_stepBy_81 o11 (by decide) (by decide) o12 ?_
  refine e_iconst dX0_stepBy_82 (by unfold InR; decide) ?_
  refine e_iload_n 1 dX0_stepBy_83 rfl ?_
  have o13 := h.1
  replace h := h.2
  have o14 := h.1
  replace h := h.2
  obtain ⟨I84, eI84⟩ : ∃ z : MI, z = up2 I (R (R x0 6) (Int.toNat (I x0 3))) (Int.toNat 0) x1 := ⟨_, rfl⟩
  replace h := h I84 eI84
  refine e_iast dX0_stepBy_84 o13 o14 (eqI eI84 ?_)
  refine e_aload_n 0 dX0_stepBy_85 rfl ?_
  refine e_getR dX0_stepBy_86 flX0_19 rfl o10 ?_
  refine e_aload_n 0 dX0_stepBy_89 rfl ?_
  refine e_getI dX0_stepBy_90 flX0_46 rfl o10 ?_
  have o15 := h.1
  replace h := h.2
  refine e_aald (t := 27) dX0_stepBy_93 o11 (by decide) (by decide) o15 ?_
  refine e_iconst dX0_stepBy_94 (by unfold InR; decide) ?_
  refine e_aload_n 3 dX0_stepBy_95 rfl ?_
  have o16 := h.1
  replace h := h.2
  refine e_getR dX0_stepBy_96 flX0_50 rfl o16 ?_
  have o17 := h.1
  replace h := h.2
  have o18 := h.1
  replace h := h.2
  refine i_VI (μ' := MX5_ecart) (ci := 4) (r := (R x3 0)) (as := []) (st := [vI 1, vR (R (R x0 6) (Int.toNat (I84 x0 3)))]) rfl dX0_stepBy_99 mOKX5_ecart ⟨mlX0_98, imX5_ecart, seX5_ecart⟩ (by decide) (Nat.le_of_ble_eq_true rfl) rfl (Nat.le_of_ble_eq_true rfl) ⟨by decide, rfl⟩ o17 (sX5_ecart o18 ?_)
  have o19 := h.1
  replace h := h.2
  have o20 := h.1
  replace h := h.2
  obtain ⟨I102, eI102⟩ : ∃ z : MI, z = up2 I84 (R (R x0 6) (Int.toNat (I84 x0 3))) (Int.toNat 1) (vX5_ecart I84 R (R x3 0)) := ⟨_, rfl⟩
  replace h := h I102 eI102
  refine e_iast dX0_stepBy_102 o19 o20 (eqI eI102 ?_)
  refine e_aload_n 0 dX0_stepBy_103 rfl ?_
  refine e_getR dX0_stepBy_104 flX0_19 rfl o10 ?_
  refine e_aload_n 0 dX0_stepBy_107 rfl ?_
  refine e_getI dX0_stepBy_108 flX0_46 rfl o10 ?_
  have o21 := h.1
  replace h := h.2
  refine e_aald (t := 27) dX0_stepBy_111 o11 (by decide) (by decide) o21 ?_
  refine e_iconst dX0_stepBy_112 (by unfold InR; decide) ?_
  refine e_aload_n 0 dX0_stepBy_113 rfl ?_
  refine e_getR dX0_stepBy_114 flX0_23 rfl o10 ?_
  have o22 := h.1
  replace h := h.2
  refine e_getR dX0_stepBy_117 flX0_50 rfl o22 ?_
  have o23 := h.1
  replace h := h.2
  have o24 := h.1
  replace h := h.2
  refine i_VI (μ' := MX5_ecart) (ci := 4) (r := (R (R x0 7) 0)) (as := []) (st := [vI 2, vR (R (R x0 6) (Int.toNat (I102 x0 3)))]) rfl dX0_stepBy_120 mOKX5_ecart ⟨mlX0_98, imX5_ecart, seX5_ecart⟩ (by decide) (Nat.le_of_ble_eq_true rfl) rfl (Nat.le_of_ble_eq_true rfl) ⟨by decide, rfl⟩ o23 (sX5_ecart o24 ?_)
  have o25 := h.1
  replace h := h.2
  have o26 := h.1
  replace h := h.2
  obtain ⟨I123, eI123⟩ : ∃ z : MI, z = up2 I102 (R (R x0 6) (Int.toNat (I102 x0 3))) (Int.toNat 2) (vX5_ecart I102 R (R (R x0 7) 0)) := ⟨_, rfl⟩
  replace h := h I123 eI123
  refine e_iast dX0_stepBy_123 o25 o26 (eqI eI123 ?_)
  refine e_aload_n 0 dX0_stepBy_124 rfl ?_
  refine e_getR dX0_stepBy_125 flX0_19 rfl o10 ?_
  refine e_aload_n 0 dX0_stepBy_128 rfl ?_
  refine e_getI dX0_stepBy_129 flX0_46 rfl o10 ?_
  have o27 := h.1
  replace h := h.2
  refine e_aald (t := 27) dX0_stepBy_132 o11 (by decide) (by decide) o27 ?_
  refine e_iconst dX0_stepBy_133 (by unfold InR; decide) ?_
  refine e_iload 4 dX0_stepBy_134 rfl ?_
  refine e_if_eq (tgt := 143) dX0_stepBy_136 (by decide) (fun c => ?_) (fun c => ?_)
  · replace h := h.1 c
    refine e_iconst dX0_stepBy_143 (by unfold InR; decide) ?_
    exact e_sub (ls2 := [(0, vR x0), (2, vR x2), (3, vR x3), (4, vI x4)]) [0, 2, 3, 4] rfl h
  · replace h := h.2 c
    refine e_iconst dX0_stepBy_139 (by unfold InR; decide) ?_
    refine e_goto (tgt := 144) dX0_stepBy_140 (by decide) ?_
    exact e_sub (ls2 := [(0, vR x0), (2, vR x2), (3, vR x3), (4, vI x4)]) [0, 2, 3, 4] rfl h
set_option maxRecDepth 100000 in
set_option maxHeartbeats 4000000 in
theorem bX0_stepBy_144 {G : Gl} {S : Sh} {I : MI} {R : MR} {Q : Sh → MI → MR → Int → Prop} {x0 : Nat} {x2 : Nat} {x3 : Nat} {x4 : Int} {y0 : Int} {y1 : Int} {y2 : Nat} (h : (sT S y2 = 21 ∧ (((0 : Int) ≤ y1 ∧ y1 < (sL S y2 : Int)) ∧ (∀ I144, I144 = up2 I y2 (Int.toNat y1) y0 → (sT S x0 = 1 ∧ (sT S (R x0 6) = 27 ∧ (((0 : Int) ≤ (I144 x0 3) ∧ (I144 x0 3) < (sL S (R x0 6) : Int)) ∧ (sT S (R x0 7) = 2 ∧ (sT S (R (R x0 7) 0) = 5 ∧ ((pX5_low S I144 R (R (R x0 7) 0)) ∧ (sT S (R (R x0 6) (Int.toNat (I144 x0 3))) = 21 ∧ (((0 : Int) ≤ 4 ∧ 4 < (sL S (R (R x0 6) (Int.toNat (I144 x0 3))) : Int)) ∧ (∀ I165, I165 = up2 I144 (R (R x0 6) (Int.toNat (I144 x0 3))) (Int.toNat 4) (vX5_low I144 R (R (R x0 7) 0)) → (∀ I173, I173 = up2 I165 x0 3 (w32 ((I165 x0 3) + 1)) → ((x4 = 0 → (CI G MX0_subtract [vR x0, vR x3, vR x2] S I173 R (fun S210 I210 R210 x210_ => ((x210_ = 0 ∨ x210_ = 1) ∧ Q S210 I210 R210 x210_)))) ∧ (¬ (x4 = 0) → (sT S (R x0 5) = 25 ∧ (((0 : Int) ≤ (I173 x0 4) ∧ (I173 x0 4) < (sL S (R x0 5) : Int)) ∧ (sT S (R (R x0 5) (Int.toNat (I173 x0 4))) = 2 ∧ (CV G MX1_become [vR (R (R x0 5) (Int.toNat (I173 x0 4))), vR (R x0 7)] S I173 R (fun S194 I194 R194 => (sT S194 x0 = 1 ∧ (∀ I204, I204 = up2 I194 x0 4 (w32 ((I194 x0 4) + 1)) → (CI G MX0_subtract [vR x0, vR x3, vR x2] S194 I204 R194 (fun S210 I210 R210 x210_ => ((x210_ = 0 ∨ x210_ = 1) ∧ Q S210 I210 R210 x210_)))))))))))))))))))))))))) : LX0_stepBy_144 G x0 x2 x3 x4 y0 y1 y2 S I R Q := by
  show E G MX0_stepBy 144 [(0, vR x0), (2, vR x2), (3, vR x3), (4, vI x4)] [vI y0, vI y1, vR y2] S I R (qI Q)
  have o28 := h.1
  replace h := h.2
  have o29 := h.1
  replace h := h.2
  obtain ⟨I144, eI144⟩ : ∃ z : MI, z = up2 I y2 (Int.toNat y1) y0 := ⟨_, rfl⟩
  replace h := h I144 eI144
  refine e_iast dX0_stepBy_144 o28 o29 (eqI eI144 ?_)
  refine e_aload_n 0 dX0_stepBy_145 rfl ?_
  have o30 := h.1
  replace h := h.2
  refine e_getR dX0_stepBy_146 flX0_19 rfl o30 ?_
  refine e_aload_n 0 dX0_stepBy_149 rfl ?_
  refine e_getI dX0_stepBy_150 flX0_46 rfl o30 ?_
  have o31 := h.1
  replace h := h.2
  have o32 := h.1
  replace h := h.2
  refine e_aald (t := 27) dX0_stepBy_153 o31 (by decide) (by decide) o32 ?_
  refine e_iconst dX0_stepBy_154 (by unfold InR; decide) ?_
  refine e_aload_n 0 dX0_stepBy_155 rfl ?_
  refine e_getR dX0_stepBy_156 flX0_23 rfl o30 ?_
  have o33 := h.1
  replace h := h.2
  refine e_getR dX0_stepBy_159 flX0_50 rfl o33 ?_
  have o34 := h.1
  replace h := h.2
  have o35 := h.1
  replace h := h.2
  refine i_VI (μ' := MX5_low) (ci := 4) (r := (R (R x0 7) 0)) (as := []) (st := [vI 4, vR (R (R x0 6) (Int.toNat (I144 x0 3)))]) rfl dX0_stepBy_162 mOKX5_low ⟨mlX0_101, imX5_low, seX5_low⟩ (by decide) (Nat.le_of_ble_eq_true rfl) rfl (Nat.le_of_ble_eq_true rfl) ⟨by decide, rfl⟩ o34 (sX5_low o35 ?_)
  have o36 := h.1
  replace h := h.2
  have o37 := h.1
  replace h := h.2
  obtain ⟨I165, eI165⟩ : ∃ z : MI, z = up2 I144 (R (R x0 6) (Int.toNat (I144 x0 3))) (Int.toNat 4) (vX5_low I144 R (R (R x0 7) 0)) := ⟨_, rfl⟩
  replace h := h I165 eI165
  refine e_iast dX0_stepBy_165 o36 o37 (eqI eI165 ?_)
  refine e_aload_n 0 dX0_stepBy_166 rfl ?_
  refine e_dup dX0_stepBy_167 rfl ?_
  refine e_getI dX0_stepBy_168 flX0_46 rfl o30 ?_
  refine e_iconst dX0_stepBy_171 (by unfold InR; decide) ?_
  refine e_iadd dX0_stepBy_172 ?_
  obtain ⟨I173, eI173⟩ : ∃ z : MI, z = up2 I165 x0 3 (w32 ((I165 x0 3) + 1)) := ⟨_, rfl⟩
  replace h := h I173 eI173
  refine e_putI dX0_stepBy_173 flX0_46 rfl (Or.inl rfl) o30 (eqI eI173 ?_)
  refine e_iload 3 dX0_stepBy_176 rfl ?_
  refine e_if_eq (tgt := 207) dX0_stepBy_178 (by decide) (fun c => ?_) (fun c => ?_)
  · replace h := h.1 c
    refine e_aload_n 0 dX0_stepBy_207 rfl ?_
    refine e_aload_n 2 dX0_stepBy_208 rfl ?_
    refine e_aload_n 1 dX0_stepBy_209 rfl ?_
    refine i_VI (μ' := MX0_subtract) (ci := 0) (r := x0) (as := [vR x3, vR x2]) (st := []) rfl dX0_stepBy_210 mOKX0_subtract ⟨mlX0_108, imX0_subtract, seX0_subtract⟩ (by decide) (Nat.le_of_ble_eq_true rfl) rfl (Nat.le_of_ble_eq_true rfl) ⟨by decide, rfl⟩ o30 (CI.mono h ?_)
    clear h
    intro S210 I210 R210 x210_ h
    exact e_zreturn dX0_stepBy_213 rfl h.1 ⟨_, rfl, h.2⟩
  · replace h := h.2 c
    refine e_aload_n 0 dX0_stepBy_181 rfl ?_
    refine e_getR dX0_stepBy_182 flX0_11 rfl o30 ?_
    refine e_aload_n 0 dX0_stepBy_185 rfl ?_
    refine e_getI dX0_stepBy_186 flX0_64 rfl o30 ?_
    have o38 := h.1
    replace h := h.2
    have o39 := h.1
    replace h := h.2
    refine e_aald (t := 25) dX0_stepBy_189 o38 (by decide) (by decide) o39 ?_
    refine e_aload_n 0 dX0_stepBy_190 rfl ?_
    refine e_getR dX0_stepBy_191 flX0_23 rfl o30 ?_
    have o40 := h.1
    replace h := h.2
    refine i_VV (μ' := MX1_become) (ci := 1) (r := (R (R x0 5) (Int.toNat (I173 x0 4)))) (as := [vR (R x0 7)]) (st := []) rfl dX0_stepBy_194 mOKX1_become ⟨mlX0_104, imX1_become, seX1_become⟩ (by decide) (Nat.le_of_ble_eq_true rfl) rfl (Nat.le_of_ble_eq_true rfl) ⟨by decide, rfl⟩ o40 (CV.mono h ?_)
    clear h
    intro S194 I194 R194 h
    refine e_aload_n 0 dX0_stepBy_197 rfl ?_
    refine e_dup dX0_stepBy_198 rfl ?_
    have o41 := h.1
    replace h := h.2
    refine e_getI dX0_stepBy_199 flX0_64 rfl o41 ?_
    refine e_iconst dX0_stepBy_202 (by unfold InR; decide) ?_
    refine e_iadd dX0_stepBy_203 ?_
    obtain ⟨I204, eI204⟩ : ∃ z : MI, z = up2 I194 x0 4 (w32 ((I194 x0 4) + 1)) := ⟨_, rfl⟩
    replace h := h I204 eI204
    refine e_putI dX0_stepBy_204 flX0_64 rfl (Or.inl rfl) o41 (eqI eI204 ?_)
    refine e_aload_n 0 dX0_stepBy_207 rfl ?_
    refine e_aload_n 2 dX0_stepBy_208 rfl ?_
    refine e_aload_n 1 dX0_stepBy_209 rfl ?_
    refine i_VI (μ' := MX0_subtract) (ci := 0) (r := x0) (as := [vR x3, vR x2]) (st := []) rfl dX0_stepBy_210 mOKX0_subtract ⟨mlX0_108, imX0_subtract, seX0_subtract⟩ (by decide) (Nat.le_of_ble_eq_true rfl) rfl (Nat.le_of_ble_eq_true rfl) ⟨by decide, rfl⟩ o41 (CI.mono h ?_)
    clear h
    intro S210 I210 R210 x210_ h
    exact e_zreturn dX0_stepBy_213 rfl h.1 ⟨_, rfl, h.2⟩

def LX0_divide_18 (G : Gl) (x0 : Nat) (x4 : Nat) (x5 : Int) (x6 : Int) (S : Sh) (I : MI) (R : MR) (Q : Sh → MI → MR → Int → Prop) : Prop := E G MX0_divide 18 [(0, vR x0), (4, vR x4), (5, vI x5), (6, vI x6)] [] S I R (qI Q)
def LX0_divide_54 (G : Gl) (x0 : Nat) (x5 : Int) (S : Sh) (I : MI) (R : MR) (Q : Sh → MI → MR → Int → Prop) : Prop := E G MX0_divide 54 [(0, vR x0), (5, vI x5)] [] S I R (qI Q)
set_option maxRecDepth 100000 in
set_option maxHeartbeats 4000000 in
theorem bX0_divide {G : Gl} {S : Sh} {I : MI} {R : MR} {Q : Sh → MI → MR → Int → Prop} {x0 : Nat} {x1 : Nat} {x2 : Int} {x3 : Int} {x4 : Nat} (h : (sT S x0 = 1 ∧ (CV G MX0_begin [vR x0, vR x1, vI x2, vI x3, vR x4] S I R (fun S6 I6 R6 => (sT S6 x0 = 1 ∧ (CI G MX0_bestDivisor [vR x0] S6 I6 R6 (fun S10 I10 R10 x10_ => LX0_divide_18 G x0 x4 x10_ 0 S10 I10 R10 Q))))))) : CI G MX0_divide [vR x0, vR x1, vI x2, vI x3, vR x4] S I R Q := by
  show E G MX0_divide 0 [(0, vR x0), (1, vR x1), (2, vI x2), (3, vI x3), (4, vR x4)] [] S I R (qI Q)
  refine e_aload_n 0 dX0_divide_0 rfl ?_
  refine e_aload_n 1 dX0_divide_1 rfl ?_
  refine e_iload_n 2 dX0_divide_2 rfl ?_
  refine e_iload_n 3 dX0_divide_3 rfl ?_
  refine e_aload 4 dX0_divide_4 rfl ?_
  have o1 := h.1
  replace h := h.2
  refine i_VV (μ' := MX0_begin) (ci := 0) (r := x0) (as := [vR x1, vI x2, vI x3, vR x4]) (st := []) rfl dX0_divide_6 mOKX0_begin ⟨mlX0_30, imX0_begin, seX0_begin⟩ (by decide) (Nat.le_of_ble_eq_true rfl) rfl (Nat.le_of_ble_eq_true rfl) ⟨by decide, rfl⟩ o1 (CV.mono h ?_)
  clear h
  intro S6 I6 R6 h
  refine e_aload_n 0 dX0_divide_9 rfl ?_
  have o2 := h.1
  replace h := h.2
  refine i_VI (μ' := MX0_bestDivisor) (ci := 0) (r := x0) (as := []) (st := []) rfl dX0_divide_10 mOKX0_bestDivisor ⟨mlX0_34, imX0_bestDivisor, seX0_bestDivisor⟩ (by decide) (Nat.le_of_ble_eq_true rfl) rfl (Nat.le_of_ble_eq_true rfl) ⟨by decide, rfl⟩ o2 (CI.mono h ?_)
  clear h
  intro S10 I10 R10 x10_ h
  refine e_istore (ls2 := [(5, vI x10_), (0, vR x0), (1, vR x1), (2, vI x2), (3, vI x3), (4, vR x4)]) dX0_divide_13 (by decide) rfl ?_
  refine e_iconst dX0_divide_15 (by unfold InR; decide) ?_
  refine e_istore (ls2 := [(6, vI 0), (5, vI x10_), (0, vR x0), (1, vR x1), (2, vI x2), (3, vI x3), (4, vR x4)]) dX0_divide_16 (by decide) rfl ?_
  exact e_sub (ls2 := [(0, vR x0), (4, vR x4), (5, vI x10_), (6, vI 0)]) [2, 6, 1, 0] rfl h
set_option maxRecDepth 100000 in
set_option maxHeartbeats 4000000 in
theorem bX0_divide_18 {G : Gl} {S : Sh} {I : MI} {R : MR} {Q : Sh → MI → MR → Int → Prop} {x0 : Nat} {x4 : Nat} {x5 : Int} {x6 : Int} (h : ((40 ≤ x6 → LX0_divide_54 G x0 x5 S I R Q) ∧ (¬ (40 ≤ x6) → ((x5 = (-1) → LX0_divide_54 G x0 x5 S I R Q) ∧ (¬ (x5 = (-1)) → (sT S x0 = 1 ∧ (CI G MX0_stepBy [vR x0, vI x5, vR x4] S I R (fun S36 I36 R36 x36_ => ((x36_ = 0 → LX0_divide_54 G x0 x5 S36 I36 R36 Q) ∧ (¬ (x36_ = 0) → (sT S36 x0 = 1 ∧ (CI G MX0_bestDivisor [vR x0] S36 I36 R36 (fun S43 I43 R43 x43_ => LX0_divide_18 G x0 x4 x43_ (w32 (x6 + 1)) S43 I43 R43 Q))))))))))))) : LX0_divide_18 G x0 x4 x5 x6 S I R Q := by
  show E G MX0_divide 18 [(0, vR x0), (4, vR x4), (5, vI x5), (6, vI x6)] [] S I R (qI Q)
  refine e_iload 3 dX0_divide_18 rfl ?_
  refine e_bipush (x := 40) dX0_divide_20 ⟨by decide +kernel, by unfold InR; decide⟩ ?_
  refine e_icmp_ge (tgt := 54) dX0_divide_22 (by decide) (fun c => ?_) (fun c => ?_)
  · replace h := h.1 c
    exact e_sub (ls2 := [(0, vR x0), (5, vI x5)]) [0, 2] rfl h
  · replace h := h.2 c
    refine e_iload 2 dX0_divide_25 rfl ?_
    refine e_iconst dX0_divide_27 (by unfold InR; decide) ?_
    refine e_icmp_eq (tgt := 54) dX0_divide_28 (by decide) (fun c => ?_) (fun c => ?_)
    · replace h := h.1 c
      exact e_sub (ls2 := [(0, vR x0), (5, vI x5)]) [0, 2] rfl h
    · replace h := h.2 c
      refine e_aload_n 0 dX0_divide_31 rfl ?_
      refine e_iload 2 dX0_divide_32 rfl ?_
      refine e_aload 1 dX0_divide_34 rfl ?_
      have o3 := h.1
      replace h := h.2
      refine i_VI (μ' := MX0_stepBy) (ci := 0) (r := x0) (as := [vI x5, vR x4]) (st := []) rfl dX0_divide_36 mOKX0_stepBy ⟨mlX0_38, imX0_stepBy, seX0_stepBy⟩ (by decide) (Nat.le_of_ble_eq_true rfl) rfl (Nat.le_of_ble_eq_true rfl) ⟨by decide, rfl⟩ o3 (CI.mono h ?_)
      clear h
      intro S36 I36 R36 x36_ h
      refine e_if_eq (tgt := 54) dX0_divide_39 (by decide) (fun c => ?_) (fun c => ?_)
      · replace h := h.1 c
        exact e_sub (ls2 := [(0, vR x0), (5, vI x5)]) [0, 2] rfl h
      · replace h := h.2 c
        refine e_aload_n 0 dX0_divide_42 rfl ?_
        have o4 := h.1
        replace h := h.2
        refine i_VI (μ' := MX0_bestDivisor) (ci := 0) (r := x0) (as := []) (st := []) rfl dX0_divide_43 mOKX0_bestDivisor ⟨mlX0_34, imX0_bestDivisor, seX0_bestDivisor⟩ (by decide) (Nat.le_of_ble_eq_true rfl) rfl (Nat.le_of_ble_eq_true rfl) ⟨by decide, rfl⟩ o4 (CI.mono h ?_)
        clear h
        intro S43 I43 R43 x43_ h
        refine e_istore (ls2 := [(5, vI x43_), (0, vR x0), (4, vR x4), (6, vI x6)]) dX0_divide_46 (by decide) rfl ?_
        refine e_iinc (ls2 := [(6, vI (w32 (x6 + 1))), (5, vI x43_), (0, vR x0), (4, vR x4)]) 3 dX0_divide_48 rfl (by decide) rfl ?_
        refine e_goto (tgt := 18) dX0_divide_51 (by decide) ?_
        exact e_sub (ls2 := [(0, vR x0), (4, vR x4), (5, vI x43_), (6, vI (w32 (x6 + 1)))]) [2, 3, 1, 0] rfl h
set_option maxRecDepth 100000 in
set_option maxHeartbeats 4000000 in
theorem bX0_divide_54 {G : Gl} {S : Sh} {I : MI} {R : MR} {Q : Sh → MI → MR → Int → Prop} {x0 : Nat} {x5 : Int} (h : ((x5 ≠ (-1) → (sT S x0 = 1 ∧ (∀ I66, I66 = up2 I x0 0 0 → (((I66 x0 0) = 0 → Q S I66 R (-2)) ∧ (¬ ((I66 x0 0) = 0) → Q S I66 R (I66 x0 3)))))) ∧ (¬ (x5 ≠ (-1)) → (sT S x0 = 1 ∧ (∀ I66, I66 = up2 I x0 0 1 → (((I66 x0 0) = 0 → Q S I66 R (-2)) ∧ (¬ ((I66 x0 0) = 0) → Q S I66 R (I66 x0 3)))))))) : LX0_divide_54 G x0 x5 S I R Q := by
  show E G MX0_divide 54 [(0, vR x0), (5, vI x5)] [] S I R (qI Q)
  refine e_aload_n 0 dX0_divide_54 rfl ?_
  refine e_iload 1 dX0_divide_55 rfl ?_
  refine e_iconst dX0_divide_57 (by unfold InR; decide) ?_
  refine e_icmp_ne (tgt := 65) dX0_divide_58 (by decide) (fun c => ?_) (fun c => ?_)
  · replace h := h.1 c
    refine e_iconst dX0_divide_65 (by unfold InR; decide) ?_
    have o5 := h.1
    replace h := h.2
    obtain ⟨I66, eI66⟩ : ∃ z : MI, z = up2 I x0 0 0 := ⟨_, rfl⟩
    replace h := h I66 eI66
    refine e_putZ dX0_divide_66 flX0_42 rfl (Or.inl rfl) o5 (by decide) (eqI eI66 ?_)
    refine e_aload_n 0 dX0_divide_69 rfl ?_
    refine e_getI dX0_divide_70 flX0_42 rfl o5 ?_
    refine e_if_eq (tgt := 83) dX0_divide_73 (by decide) (fun c => ?_) (fun c => ?_)
    · replace h := h.1 c
      refine e_bipush (x := (-2)) dX0_divide_83 ⟨by decide +kernel, by unfold InR; decide⟩ ?_
      exact e_ireturn dX0_divide_85 rfl ⟨_, rfl, h⟩
    · replace h := h.2 c
      refine e_aload_n 0 dX0_divide_76 rfl ?_
      refine e_getI dX0_divide_77 flX0_46 rfl o5 ?_
      refine e_goto (tgt := 85) dX0_divide_80 (by decide) ?_
      exact e_ireturn dX0_divide_85 rfl ⟨_, rfl, h⟩
  · replace h := h.2 c
    refine e_iconst dX0_divide_61 (by unfold InR; decide) ?_
    refine e_goto (tgt := 66) dX0_divide_62 (by decide) ?_
    have o6 := h.1
    replace h := h.2
    obtain ⟨I66, eI66⟩ : ∃ z : MI, z = up2 I x0 0 1 := ⟨_, rfl⟩
    replace h := h I66 eI66
    refine e_putZ dX0_divide_66 flX0_42 rfl (Or.inl rfl) o6 (by decide) (eqI eI66 ?_)
    refine e_aload_n 0 dX0_divide_69 rfl ?_
    refine e_getI dX0_divide_70 flX0_42 rfl o6 ?_
    refine e_if_eq (tgt := 83) dX0_divide_73 (by decide) (fun c => ?_) (fun c => ?_)
    · replace h := h.1 c
      refine e_bipush (x := (-2)) dX0_divide_83 ⟨by decide +kernel, by unfold InR; decide⟩ ?_
      exact e_ireturn dX0_divide_85 rfl ⟨_, rfl, h⟩
    · replace h := h.2 c
      refine e_aload_n 0 dX0_divide_76 rfl ?_
      refine e_getI dX0_divide_77 flX0_46 rfl o6 ?_
      refine e_goto (tgt := 85) dX0_divide_80 (by decide) ?_
      exact e_ireturn dX0_divide_85 rfl ⟨_, rfl, h⟩

def vX0_keptOne (I : MI) (R : MR) (x0 : Nat) (x1 : Int) : Nat := (if (I x0 0) = 0 then 0 else (if x1 < 0 then 0 else (if x1 < 10 then (if 2 ≤ x1 then (if (iand (ishr (I x0 1) (w32 (x1 - 2))) 1) ≠ 1 then 0 else (R (R (R x0 7) 2) (Int.toNat (w32 (x1 - 2))))) else (if x1 ≠ 0 then (R (R x0 7) 1) else (R (R x0 7) 0))) else 0)))
def pX0_keptOne (S : Sh) (I : MI) (R : MR) (x0 : Nat) (x1 : Int) : Prop := (sT S x0 = 1 ∧ (((I x0 0) = 0 → True) ∧ (¬ ((I x0 0) = 0) → ((x1 < 0 → True) ∧ (¬ (x1 < 0) → ((x1 < 10 → ((2 ≤ x1 → (((iand (ishr (I x0 1) (w32 (x1 - 2))) 1) ≠ 1 → True) ∧ (¬ ((iand (ishr (I x0 1) (w32 (x1 - 2))) 1) ≠ 1) → (sT S (R x0 7) = 2 ∧ (sT S (R (R x0 7) 2) = 24 ∧ (((0 : Int) ≤ (w32 (x1 - 2)) ∧ (w32 (x1 - 2)) < (sL S (R (R x0 7) 2) : Int)) ∧ True)))))) ∧ (¬ (2 ≤ x1) → ((x1 ≠ 0 → (sT S (R x0 7) = 2 ∧ True)) ∧ (¬ (x1 ≠ 0) → (sT S (R x0 7) = 2 ∧ True)))))) ∧ (¬ (x1 < 10) → True)))))))
set_option maxRecDepth 100000 in
set_option maxHeartbeats 4000000 in
theorem sX0_keptOne {G : Gl} {S : Sh} {I : MI} {R : MR} {Q : Sh → MI → MR → Nat → Prop} {x0 : Nat} {x1 : Int} (hp : pX0_keptOne S I R x0 x1) (hq : Q S I R (vX0_keptOne I R x0 x1)) : CR G MX0_keptOne [vR x0, vI x1] S I R Q := by
  show E G MX0_keptOne 0 [(0, vR x0), (1, vI x1)] [] S I R (qR Q)
  unfold vX0_keptOne at hq
  unfold pX0_keptOne at hp
  refine e_aload_n 0 dX0_keptOne_0 rfl ?_
  have o1 := hp.1
  replace hp := hp.2
  refine e_getI dX0_keptOne_1 flX0_42 rfl o1 ?_
  refine e_if_eq (tgt := 17) dX0_keptOne_4 (by decide) (fun c => ?_) (fun c => ?_)
  · rw [if_pos c] at hq
    replace hp := hp.1 c
    refine e_null dX0_keptOne_17 ?_
    exact e_areturn (C := "") dX0_keptOne_18 ⟨_, rfl⟩ ⟨_, rfl, hq⟩
  · rw [if_neg c] at hq
    replace hp := hp.2 c
    refine e_iload_n 1 dX0_keptOne_7 rfl ?_
    refine e_if_lt (tgt := 17) dX0_keptOne_8 (by decide) (fun c => ?_) (fun c => ?_)
    · rw [if_pos c] at hq
      replace hp := hp.1 c
      refine e_null dX0_keptOne_17 ?_
      exact e_areturn (C := "") dX0_keptOne_18 ⟨_, rfl⟩ ⟨_, rfl, hq⟩
    · rw [if_neg c] at hq
      replace hp := hp.2 c
      refine e_iload_n 1 dX0_keptOne_11 rfl ?_
      refine e_bipush (x := 10) dX0_keptOne_12 ⟨by decide +kernel, by unfold InR; decide⟩ ?_
      refine e_icmp_lt (tgt := 19) dX0_keptOne_14 (by decide) (fun c => ?_) (fun c => ?_)
      · rw [if_pos c] at hq
        replace hp := hp.1 c
        refine e_iload_n 1 dX0_keptOne_19 rfl ?_
        refine e_iconst dX0_keptOne_20 (by unfold InR; decide) ?_
        refine e_icmp_ge (tgt := 46) dX0_keptOne_21 (by decide) (fun c => ?_) (fun c => ?_)
        · rw [if_pos c] at hq
          replace hp := hp.1 c
          refine e_aload_n 0 dX0_keptOne_46 rfl ?_
          refine e_getI dX0_keptOne_47 flX0_57 rfl o1 ?_
          refine e_iload_n 1 dX0_keptOne_50 rfl ?_
          refine e_iconst dX0_keptOne_51 (by unfold InR; decide) ?_
          refine e_isub dX0_keptOne_52 ?_
          refine e_ishr dX0_keptOne_53 ?_
          refine e_iconst dX0_keptOne_54 (by unfold InR; decide) ?_
          refine e_iand dX0_keptOne_55 ?_
          refine e_iconst dX0_keptOne_56 (by unfold InR; decide) ?_
          refine e_icmp_ne (tgt := 74) dX0_keptOne_57 (by decide) (fun c => ?_) (fun c => ?_)
          · rw [if_pos c] at hq
            replace hp := hp.1 c
            refine e_null dX0_keptOne_74 ?_
            exact e_areturn (C := "") dX0_keptOne_75 ⟨_, rfl⟩ ⟨_, rfl, hq⟩
          · rw [if_neg c] at hq
            replace hp := hp.2 c
            refine e_aload_n 0 dX0_keptOne_60 rfl ?_
            refine e_getR dX0_keptOne_61 flX0_23 rfl o1 ?_
            have o2 := hp.1
            replace hp := hp.2
            refine e_getR dX0_keptOne_64 flX0_60 rfl o2 ?_
            refine e_iload_n 1 dX0_keptOne_67 rfl ?_
            refine e_iconst dX0_keptOne_68 (by unfold InR; decide) ?_
            refine e_isub dX0_keptOne_69 ?_
            have o3 := hp.1
            replace hp := hp.2
            have o4 := hp.1
            replace hp := hp.2
            refine e_aald (t := 24) dX0_keptOne_70 o3 (by decide) (by decide) o4 ?_
            refine e_goto (tgt := 75) dX0_keptOne_71 (by decide) ?_
            exact e_areturn (C := "") dX0_keptOne_75 ⟨_, rfl⟩ ⟨_, rfl, hq⟩
        · rw [if_neg c] at hq
          replace hp := hp.2 c
          refine e_iload_n 1 dX0_keptOne_24 rfl ?_
          refine e_if_ne (tgt := 38) dX0_keptOne_25 (by decide) (fun c => ?_) (fun c => ?_)
          · rw [if_pos c] at hq
            replace hp := hp.1 c
            refine e_aload_n 0 dX0_keptOne_38 rfl ?_
            refine e_getR dX0_keptOne_39 flX0_23 rfl o1 ?_
            have o5 := hp.1
            replace hp := hp.2
            refine e_getR dX0_keptOne_42 flX0_54 rfl o5 ?_
            exact e_areturn (C := "") dX0_keptOne_45 ⟨_, rfl⟩ ⟨_, rfl, hq⟩
          · rw [if_neg c] at hq
            replace hp := hp.2 c
            refine e_aload_n 0 dX0_keptOne_28 rfl ?_
            refine e_getR dX0_keptOne_29 flX0_23 rfl o1 ?_
            have o6 := hp.1
            replace hp := hp.2
            refine e_getR dX0_keptOne_32 flX0_50 rfl o6 ?_
            refine e_goto (tgt := 45) dX0_keptOne_35 (by decide) ?_
            exact e_areturn (C := "") dX0_keptOne_45 ⟨_, rfl⟩ ⟨_, rfl, hq⟩
      · rw [if_neg c] at hq
        replace hp := hp.2 c
        refine e_null dX0_keptOne_17 ?_
        exact e_areturn (C := "") dX0_keptOne_18 ⟨_, rfl⟩ ⟨_, rfl, hq⟩

def vX0_tellStep (I : MI) (R : MR) (x0 : Nat) (x1 : Int) (x2 : Int) : Int := (if x1 < 0 then (-1) else (if (I x0 3) ≤ x1 then (-1) else (if 40 ≤ x1 then (-1) else (if x2 < 0 then (-1) else (if x2 < 5 then (I (R (R x0 6) (Int.toNat x1)) (Int.toNat x2)) else (-1))))))
def pX0_tellStep (S : Sh) (I : MI) (R : MR) (x0 : Nat) (x1 : Int) (x2 : Int) : Prop := ((x1 < 0 → True) ∧ (¬ (x1 < 0) → (sT S x0 = 1 ∧ (((I x0 3) ≤ x1 → True) ∧ (¬ ((I x0 3) ≤ x1) → ((40 ≤ x1 → True) ∧ (¬ (40 ≤ x1) → ((x2 < 0 → True) ∧ (¬ (x2 < 0) → ((x2 < 5 → (sT S (R x0 6) = 27 ∧ (((0 : Int) ≤ x1 ∧ x1 < (sL S (R x0 6) : Int)) ∧ (sT S (R (R x0 6) (Int.toNat x1)) = 21 ∧ (((0 : Int) ≤ x2 ∧ x2 < (sL S (R (R x0 6) (Int.toNat x1)) : Int)) ∧ True))))) ∧ (¬ (x2 < 5) → True)))))))))))
set_option maxRecDepth 100000 in
set_option maxHeartbeats 4000000 in
theorem sX0_tellStep {G : Gl} {S : Sh} {I : MI} {R : MR} {Q : Sh → MI → MR → Int → Prop} {x0 : Nat} {x1 : Int} {x2 : Int} (hp : pX0_tellStep S I R x0 x1 x2) (hq : Q S I R (vX0_tellStep I R x0 x1 x2)) : CI G MX0_tellStep [vR x0, vI x1, vI x2] S I R Q := by
  show E G MX0_tellStep 0 [(0, vR x0), (1, vI x1), (2, vI x2)] [] S I R (qI Q)
  unfold vX0_tellStep at hq
  unfold pX0_tellStep at hp
  refine e_iload_n 1 dX0_tellStep_0 rfl ?_
  refine e_if_lt (tgt := 27) dX0_tellStep_1 (by decide) (fun c => ?_) (fun c => ?_)
  · rw [if_pos c] at hq
    replace hp := hp.1 c
    refine e_iconst dX0_tellStep_27 (by unfold InR; decide) ?_
    exact e_ireturn dX0_tellStep_28 rfl ⟨_, rfl, hq⟩
  · rw [if_neg c] at hq
    replace hp := hp.2 c
    refine e_iload_n 1 dX0_tellStep_4 rfl ?_
    refine e_aload_n 0 dX0_tellStep_5 rfl ?_
    have o1 := hp.1
    replace hp := hp.2
    refine e_getI dX0_tellStep_6 flX0_46 rfl o1 ?_
    refine e_icmp_ge (tgt := 27) dX0_tellStep_9 (by decide) (fun c => ?_) (fun c => ?_)
    · rw [if_pos c] at hq
      replace hp := hp.1 c
      refine e_iconst dX0_tellStep_27 (by unfold InR; decide) ?_
      exact e_ireturn dX0_tellStep_28 rfl ⟨_, rfl, hq⟩
    · rw [if_neg c] at hq
      replace hp := hp.2 c
      refine e_iload_n 1 dX0_tellStep_12 rfl ?_
      refine e_bipush (x := 40) dX0_tellStep_13 ⟨by decide +kernel, by unfold InR; decide⟩ ?_
      refine e_icmp_ge (tgt := 27) dX0_tellStep_15 (by decide) (fun c => ?_) (fun c => ?_)
      · rw [if_pos c] at hq
        replace hp := hp.1 c
        refine e_iconst dX0_tellStep_27 (by unfold InR; decide) ?_
        exact e_ireturn dX0_tellStep_28 rfl ⟨_, rfl, hq⟩
      · rw [if_neg c] at hq
        replace hp := hp.2 c
        refine e_iload_n 2 dX0_tellStep_18 rfl ?_
        refine e_if_lt (tgt := 27) dX0_tellStep_19 (by decide) (fun c => ?_) (fun c => ?_)
        · rw [if_pos c] at hq
          replace hp := hp.1 c
          refine e_iconst dX0_tellStep_27 (by unfold InR; decide) ?_
          exact e_ireturn dX0_tellStep_28 rfl ⟨_, rfl, hq⟩
        · rw [if_neg c] at hq
          replace hp := hp.2 c
          refine e_iload_n 2 dX0_tellStep_22 rfl ?_
          refine e_iconst dX0_tellStep_23 (by unfold InR; decide) ?_
          refine e_icmp_lt (tgt := 29) dX0_tellStep_24 (by decide) (fun c => ?_) (fun c => ?_)
          · rw [if_pos c] at hq
            replace hp := hp.1 c
            refine e_aload_n 0 dX0_tellStep_29 rfl ?_
            refine e_getR dX0_tellStep_30 flX0_19 rfl o1 ?_
            refine e_iload_n 1 dX0_tellStep_33 rfl ?_
            have o2 := hp.1
            replace hp := hp.2
            have o3 := hp.1
            replace hp := hp.2
            refine e_aald (t := 27) dX0_tellStep_34 o2 (by decide) (by decide) o3 ?_
            refine e_iload_n 2 dX0_tellStep_35 rfl ?_
            have o4 := hp.1
            replace hp := hp.2
            have o5 := hp.1
            replace hp := hp.2
            refine e_iald dX0_tellStep_36 o4 o5 ?_
            exact e_ireturn dX0_tellStep_37 rfl ⟨_, rfl, hq⟩
          · rw [if_neg c] at hq
            replace hp := hp.2 c
            refine e_iconst dX0_tellStep_27 (by unfold InR; decide) ?_
            exact e_ireturn dX0_tellStep_28 rfl ⟨_, rfl, hq⟩

def vX0_tellWhole (I : MI) (x0 : Nat) (x1 : Int) : Int := (if x1 ≠ 0 then (if x1 ≠ 1 then (if x1 ≠ 2 then (-1) else 1) else (I x0 4)) else (I x0 3))
def pX0_tellWhole (S : Sh) (x0 : Nat) (x1 : Int) : Prop := ((x1 ≠ 0 → ((x1 ≠ 1 → True) ∧ (¬ (x1 ≠ 1) → (sT S x0 = 1 ∧ True)))) ∧ (¬ (x1 ≠ 0) → (sT S x0 = 1 ∧ True)))
set_option maxRecDepth 100000 in
set_option maxHeartbeats 4000000 in
theorem sX0_tellWhole {G : Gl} {S : Sh} {I : MI} {R : MR} {Q : Sh → MI → MR → Int → Prop} {x0 : Nat} {x1 : Int} (hp : pX0_tellWhole S x0 x1) (hq : Q S I R (vX0_tellWhole I x0 x1)) : CI G MX0_tellWhole [vR x0, vI x1] S I R Q := by
  show E G MX0_tellWhole 0 [(0, vR x0), (1, vI x1)] [] S I R (qI Q)
  unfold vX0_tellWhole at hq
  unfold pX0_tellWhole at hp
  refine e_iload_n 1 dX0_tellWhole_0 rfl ?_
  refine e_if_ne (tgt := 9) dX0_tellWhole_1 (by decide) (fun c => ?_) (fun c => ?_)
  · rw [if_pos c] at hq
    replace hp := hp.1 c
    refine e_iload_n 1 dX0_tellWhole_9 rfl ?_
    refine e_iconst dX0_tellWhole_10 (by unfold InR; decide) ?_
    refine e_icmp_ne (tgt := 19) dX0_tellWhole_11 (by decide) (fun c => ?_) (fun c => ?_)
    · rw [if_pos c] at hq
      replace hp := hp.1 c
      refine e_iload_n 1 dX0_tellWhole_19 rfl ?_
      refine e_iconst dX0_tellWhole_20 (by unfold InR; decide) ?_
      refine e_icmp_ne (tgt := 28) dX0_tellWhole_21 (by decide) (fun c => ?_) (fun c => ?_)
      · rw [if_pos c] at hq
        refine e_iconst dX0_tellWhole_28 (by unfold InR; decide) ?_
        exact e_ireturn dX0_tellWhole_29 rfl ⟨_, rfl, hq⟩
      · rw [if_neg c] at hq
        refine e_iconst dX0_tellWhole_24 (by unfold InR; decide) ?_
        refine e_goto (tgt := 29) dX0_tellWhole_25 (by decide) ?_
        exact e_ireturn dX0_tellWhole_29 rfl ⟨_, rfl, hq⟩
    · rw [if_neg c] at hq
      replace hp := hp.2 c
      refine e_aload_n 0 dX0_tellWhole_14 rfl ?_
      have o1 := hp.1
      replace hp := hp.2
      refine e_getI dX0_tellWhole_15 flX0_64 rfl o1 ?_
      exact e_ireturn dX0_tellWhole_18 rfl ⟨_, rfl, hq⟩
  · rw [if_neg c] at hq
    replace hp := hp.2 c
    refine e_aload_n 0 dX0_tellWhole_4 rfl ?_
    have o2 := hp.1
    replace hp := hp.2
    refine e_getI dX0_tellWhole_5 flX0_46 rfl o2 ?_
    exact e_ireturn dX0_tellWhole_8 rfl ⟨_, rfl, hq⟩
