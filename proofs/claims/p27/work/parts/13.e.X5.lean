set_option maxRecDepth 100000 in
set_option maxHeartbeats 4000000 in
theorem bX5_init {G : Gl} {S : Sh} {I : MI} {R : MR} {Q : Sh → MI → MR → Prop} {x0 : Nat} {x1 : Int} (h : (sT S x0 ≠ 0 ∧ (∃ n12 : Nat, (max x1 0) = (n12 : Int) ∧ n12 ≤ 100000000 ∧ (∀ S12 I12 R12, S12 = shNew S 21 n12 n12 → I12 = mNew I (sN S) 0 → R12 = mNew R (sN S) 0 → (sT S12 x0 = 5 ∧ (∀ R14, R14 = up2 R12 x0 0 (sN S) → (∃ n19 : Nat, (max x1 0) = (n19 : Int) ∧ n19 ≤ 100000000 ∧ (∀ S19 I19 R19, S19 = shNew S12 21 n19 n19 → I19 = mNew I12 (sN S12) 0 → R19 = mNew R14 (sN S12) 0 → (sT S19 x0 = 5 ∧ (∀ R21, R21 = up2 R19 x0 1 (sN S12) → Q S19 I19 R21)))))))))) : CV G MX5_init [vR x0, vI x1] S I R Q := by
  show E G MX5_init 0 [(0, vR x0), (1, vI x1)] [] S I R (qV Q)
  refine e_aload_n 0 dX5_init_0 rfl ?_
  have o1 := h.1
  replace h := h.2
  refine e_objI dX5_init_1 ⟨moX5_3, oc⟩ (by decide) (Nat.le_of_ble_eq_true rfl) o1 ?_
  refine e_iload_n 1 dX5_init_4 rfl ?_
  refine e_iconst dX5_init_5 (by unfold InR; decide) ?_
  refine e_mmax dX5_init_6 mmX5_9 mxmax (by decide) (Nat.le_of_ble_eq_true rfl) ?_
  refine e_istore_n (ls2 := [(2, vI (max x1 0)), (0, vR x0), (1, vI x1)]) dX5_init_9 (by decide) rfl ?_
  refine e_aload_n 1 dX5_init_10 rfl ?_
  refine e_iload_n 0 dX5_init_11 rfl ?_
  obtain ⟨n12, h0, h1, h⟩ := h
  obtain ⟨S12, eS12⟩ : ∃ z : Sh, z = shNew S 21 n12 n12 := ⟨_, rfl⟩
  obtain ⟨I12, eI12⟩ : ∃ z : MI, z = mNew I (sN S) 0 := ⟨_, rfl⟩
  obtain ⟨R12, eR12⟩ : ∃ z : MR, z = mNew R (sN S) 0 := ⟨_, rfl⟩
  replace h := h S12 I12 R12 eS12 eI12 eR12
  refine e_newa (t := 21) (n := n12) dX5_init_12 (Or.inl ⟨rfl, rfl⟩) acint h0 h1 (eqS eS12 (eqI eI12 (eqR eR12 ?_)))
  have o2 := h.1
  replace h := h.2
  obtain ⟨R14, eR14⟩ : ∃ z : MR, z = up2 R12 x0 0 (sN S) := ⟨_, rfl⟩
  replace h := h R14 eR14
  refine e_putR dX5_init_14 flX5_15 rfl (Or.inr ⟨rfl, rfl, rfl⟩) o2 (eqR eR14 ?_)
  refine e_aload_n 1 dX5_init_17 rfl ?_
  refine e_iload_n 0 dX5_init_18 rfl ?_
  obtain ⟨n19, h0, h1, h⟩ := h
  obtain ⟨S19, eS19⟩ : ∃ z : Sh, z = shNew S12 21 n19 n19 := ⟨_, rfl⟩
  obtain ⟨I19, eI19⟩ : ∃ z : MI, z = mNew I12 (sN S12) 0 := ⟨_, rfl⟩
  obtain ⟨R19, eR19⟩ : ∃ z : MR, z = mNew R14 (sN S12) 0 := ⟨_, rfl⟩
  replace h := h S19 I19 R19 eS19 eI19 eR19
  refine e_newa (t := 21) (n := n19) dX5_init_19 (Or.inl ⟨rfl, rfl⟩) acint h0 h1 (eqS eS19 (eqI eI19 (eqR eR19 ?_)))
  have o3 := h.1
  replace h := h.2
  obtain ⟨R21, eR21⟩ : ∃ z : MR, z = up2 R19 x0 1 (sN S12) := ⟨_, rfl⟩
  replace h := h R21 eR21
  refine e_putR dX5_init_21 flX5_21 rfl (Or.inr ⟨rfl, rfl, rfl⟩) o3 (eqR eR21 ?_)
  exact e_return dX5_init_24 rfl ⟨rfl, h⟩

set_option maxRecDepth 100000 in
set_option maxHeartbeats 4000000 in
theorem bX5_clear {G : Gl} {S : Sh} {I : MI} {R : MR} {Q : Sh → MI → MR → Prop} {x0 : Nat} (h : (sT S x0 = 5 ∧ (∀ I2, I2 = up2 I x0 2 0 → Q S I2 R))) : CV G MX5_clear [vR x0] S I R Q := by
  show E G MX5_clear 0 [(0, vR x0)] [] S I R (qV Q)
  refine e_aload_n 0 dX5_clear_0 rfl ?_
  refine e_iconst dX5_clear_1 (by unfold InR; decide) ?_
  have o1 := h.1
  replace h := h.2
  obtain ⟨I2, eI2⟩ : ∃ z : MI, z = up2 I x0 2 0 := ⟨_, rfl⟩
  replace h := h I2 eI2
  refine e_putI dX5_clear_2 flX5_24 rfl (Or.inl rfl) o1 (eqI eI2 ?_)
  exact e_return dX5_clear_5 rfl ⟨rfl, h⟩

set_option maxRecDepth 100000 in
set_option maxHeartbeats 4000000 in
theorem bX5_become {G : Gl} {S : Sh} {I : MI} {R : MR} {Q : Sh → MI → MR → Prop} {x0 : Nat} {x1 : Nat} (h : (sT S x1 = 5 ∧ (sT S x0 = 5 ∧ (21 ≤ sT S (R x0 0) ∧ (∀ I13, I13 = up2 I x0 2 (min (I x1 2) (sL S (R x0 0) : Int)) → (sT S (R x1 0) = 21 ∧ (sT S (R x0 0) = 21 ∧ ((0 : Int) ≤ 0 ∧ ((0 : Int) ≤ (I13 x0 2) ∧ (0 + (I13 x0 2) ≤ (sL S (R x1 0) : Int) ∧ (0 + (I13 x0 2) ≤ (sL S (R x0 0) : Int) ∧ (∀ I30, I30 = up1 I13 (R x0 0) (va_cpy (I13 (R x1 0)) (I13 (R x0 0)) (Int.toNat 0) (Int.toNat 0) (Int.toNat (I13 x0 2))) → (sT S (R x1 1) = 21 ∧ (sT S (R x0 1) = 21 ∧ ((0 : Int) ≤ (I30 x0 2) ∧ (0 + (I30 x0 2) ≤ (sL S (R x1 1) : Int) ∧ (0 + (I30 x0 2) ≤ (sL S (R x0 1) : Int) ∧ (∀ I47, I47 = up1 I30 (R x0 1) (va_cpy (I30 (R x1 1)) (I30 (R x0 1)) (Int.toNat 0) (Int.toNat 0) (Int.toNat (I30 x0 2))) → Q S I47 R)))))))))))))))))) : CV G MX5_become [vR x0, vR x1] S I R Q := by
  show E G MX5_become 0 [(0, vR x0), (1, vR x1)] [] S I R (qV Q)
  refine e_aload_n 0 dX5_become_0 rfl ?_
  refine e_aload_n 1 dX5_become_1 rfl ?_
  have o1 := h.1
  replace h := h.2
  refine e_getI dX5_become_2 flX5_24 rfl o1 ?_
  refine e_aload_n 0 dX5_become_5 rfl ?_
  have o2 := h.1
  replace h := h.2
  refine e_getR dX5_become_6 flX5_15 rfl o2 ?_
  have o3 := h.1
  replace h := h.2
  refine e_alen dX5_become_9 o3 ?_
  refine e_mmin dX5_become_10 mmX5_45 mxmin (by decide) (Nat.le_of_ble_eq_true rfl) ?_
  obtain ⟨I13, eI13⟩ : ∃ z : MI, z = up2 I x0 2 (min (I x1 2) (sL S (R x0 0) : Int)) := ⟨_, rfl⟩
  replace h := h I13 eI13
  refine e_putI dX5_become_13 flX5_24 rfl (Or.inl rfl) o2 (eqI eI13 ?_)
  refine e_aload_n 1 dX5_become_16 rfl ?_
  refine e_getR dX5_become_17 flX5_15 rfl o1 ?_
  refine e_iconst dX5_become_20 (by unfold InR; decide) ?_
  refine e_aload_n 0 dX5_become_21 rfl ?_
  refine e_getR dX5_become_22 flX5_15 rfl o2 ?_
  refine e_iconst dX5_become_25 (by unfold InR; decide) ?_
  refine e_aload_n 0 dX5_become_26 rfl ?_
  refine e_getI dX5_become_27 flX5_24 rfl o2 ?_
  have o4 := h.1
  replace h := h.2
  have o5 := h.1
  replace h := h.2
  have o6 := h.1
  replace h := h.2
  have o7 := h.1
  replace h := h.2
  have o8 := h.1
  replace h := h.2
  have o9 := h.1
  replace h := h.2
  obtain ⟨I30, eI30⟩ : ∃ z : MI, z = up1 I13 (R x0 0) (va_cpy (I13 (R x1 0)) (I13 (R x0 0)) (Int.toNat 0) (Int.toNat 0) (Int.toNat (I13 x0 2))) := ⟨_, rfl⟩
  replace h := h I30 eI30
  refine e_copy dX5_become_30 ⟨maX5_48, acp⟩ (by decide) (Nat.le_of_ble_eq_true rfl) o4 o5 o6 o6 o7 o8 o9 (eqI eI30 ?_)
  refine e_aload_n 1 dX5_become_33 rfl ?_
  refine e_getR dX5_become_34 flX5_21 rfl o1 ?_
  refine e_iconst dX5_become_37 (by unfold InR; decide) ?_
  refine e_aload_n 0 dX5_become_38 rfl ?_
  refine e_getR dX5_become_39 flX5_21 rfl o2 ?_
  refine e_iconst dX5_become_42 (by unfold InR; decide) ?_
  refine e_aload_n 0 dX5_become_43 rfl ?_
  refine e_getI dX5_become_44 flX5_24 rfl o2 ?_
  have o10 := h.1
  replace h := h.2
  have o11 := h.1
  replace h := h.2
  have o12 := h.1
  replace h := h.2
  have o13 := h.1
  replace h := h.2
  have o14 := h.1
  replace h := h.2
  obtain ⟨I47, eI47⟩ : ∃ z : MI, z = up1 I30 (R x0 1) (va_cpy (I30 (R x1 1)) (I30 (R x0 1)) (Int.toNat 0) (Int.toNat 0) (Int.toNat (I30 x0 2))) := ⟨_, rfl⟩
  replace h := h I47 eI47
  refine e_copy dX5_become_47 ⟨maX5_48, acp⟩ (by decide) (Nat.le_of_ble_eq_true rfl) o10 o11 o6 o6 o12 o13 o14 (eqI eI47 ?_)
  exact e_return dX5_become_50 rfl ⟨rfl, h⟩

set_option maxRecDepth 100000 in
set_option maxHeartbeats 4000000 in
theorem bX5_append {G : Gl} {S : Sh} {I : MI} {R : MR} {Q : Sh → MI → MR → Int → Prop} {x0 : Nat} {x1 : Int} {x2 : Int} (h : (sT S x0 = 5 ∧ (21 ≤ sT S (R x0 0) ∧ (((sL S (R x0 0) : Int) ≤ (I x0 2) → Q S I R 0) ∧ (¬ ((sL S (R x0 0) : Int) ≤ (I x0 2)) → (((vX3_isTooHigh x1) = 0 → (sT S (R x0 0) = 21 ∧ (((0 : Int) ≤ (I x0 2) ∧ (I x0 2) < (sL S (R x0 0) : Int)) ∧ (∀ I30, I30 = up2 I (R x0 0) (Int.toNat (I x0 2)) x1 → (sT S (R x0 1) = 21 ∧ (((0 : Int) ≤ (I30 x0 2) ∧ (I30 x0 2) < (sL S (R x0 1) : Int)) ∧ (∀ I40, I40 = up2 I30 (R x0 1) (Int.toNat (I30 x0 2)) x2 → (∀ I48, I48 = up2 I40 x0 2 (w32 ((I40 x0 2) + 1)) → Q S I48 R 1)))))))) ∧ (¬ ((vX3_isTooHigh x1) = 0) → Q S I R 0))))))) : CI G MX5_append [vR x0, vI x1, vI x2] S I R Q := by
  show E G MX5_append 0 [(0, vR x0), (1, vI x1), (2, vI x2)] [] S I R (qI Q)
  refine e_aload_n 0 dX5_append_0 rfl ?_
  have o1 := h.1
  replace h := h.2
  refine e_getI dX5_append_1 flX5_24 rfl o1 ?_
  refine e_aload_n 0 dX5_append_4 rfl ?_
  refine e_getR dX5_append_5 flX5_15 rfl o1 ?_
  have o2 := h.1
  replace h := h.2
  refine e_alen dX5_append_8 o2 ?_
  refine e_icmp_ge (tgt := 19) dX5_append_9 (by decide) (fun c => ?_) (fun c => ?_)
  · replace h := h.1 c
    refine e_iconst dX5_append_19 (by unfold InR; decide) ?_
    exact e_zreturn dX5_append_20 rfl (by decide) ⟨_, rfl, h⟩
  · replace h := h.2 c
    refine e_iload_n 1 dX5_append_12 rfl ?_
    refine i_SI (μ' := MX3_isTooHigh) (as := [vI x1]) (st := []) rfl dX5_append_13 mOKX3_isTooHigh ⟨mlX5_41, stX3_isTooHigh⟩ (by decide) (Nat.le_of_ble_eq_true rfl) rfl (Nat.le_of_ble_eq_true rfl) (sX3_isTooHigh ?_)
    refine e_if_eq (tgt := 21) dX5_append_16 (by decide) (fun c => ?_) (fun c => ?_)
    · replace h := h.1 c
      refine e_aload_n 0 dX5_append_21 rfl ?_
      refine e_getR dX5_append_22 flX5_15 rfl o1 ?_
      refine e_aload_n 0 dX5_append_25 rfl ?_
      refine e_getI dX5_append_26 flX5_24 rfl o1 ?_
      refine e_iload_n 1 dX5_append_29 rfl ?_
      have o3 := h.1
      replace h := h.2
      have o4 := h.1
      replace h := h.2
      obtain ⟨I30, eI30⟩ : ∃ z : MI, z = up2 I (R x0 0) (Int.toNat (I x0 2)) x1 := ⟨_, rfl⟩
      replace h := h I30 eI30
      refine e_iast dX5_append_30 o3 o4 (eqI eI30 ?_)
      refine e_aload_n 0 dX5_append_31 rfl ?_
      refine e_getR dX5_append_32 flX5_21 rfl o1 ?_
      refine e_aload_n 0 dX5_append_35 rfl ?_
      refine e_getI dX5_append_36 flX5_24 rfl o1 ?_
      refine e_iload_n 2 dX5_append_39 rfl ?_
      have o5 := h.1
      replace h := h.2
      have o6 := h.1
      replace h := h.2
      obtain ⟨I40, eI40⟩ : ∃ z : MI, z = up2 I30 (R x0 1) (Int.toNat (I30 x0 2)) x2 := ⟨_, rfl⟩
      replace h := h I40 eI40
      refine e_iast dX5_append_40 o5 o6 (eqI eI40 ?_)
      refine e_aload_n 0 dX5_append_41 rfl ?_
      refine e_dup dX5_append_42 rfl ?_
      refine e_getI dX5_append_43 flX5_24 rfl o1 ?_
      refine e_iconst dX5_append_46 (by unfold InR; decide) ?_
      refine e_iadd dX5_append_47 ?_
      obtain ⟨I48, eI48⟩ : ∃ z : MI, z = up2 I40 x0 2 (w32 ((I40 x0 2) + 1)) := ⟨_, rfl⟩
      replace h := h I48 eI48
      refine e_putI dX5_append_48 flX5_24 rfl (Or.inl rfl) o1 (eqI eI48 ?_)
      refine e_iconst dX5_append_51 (by unfold InR; decide) ?_
      exact e_zreturn dX5_append_52 rfl (by decide) ⟨_, rfl, h⟩
    · replace h := h.2 c
      refine e_iconst dX5_append_19 (by unfold InR; decide) ?_
      exact e_zreturn dX5_append_20 rfl (by decide) ⟨_, rfl, h⟩

set_option maxRecDepth 100000 in
set_option maxHeartbeats 4000000 in
theorem bX5_becomeNumber {G : Gl} {S : Sh} {I : MI} {R : MR} {Q : Sh → MI → MR → Prop} {x0 : Nat} {x1 : Int} (h : (sT S x0 = 5 ∧ (∀ I2, I2 = up2 I x0 2 0 → (CI G MX5_append [vR x0, vI 262143, vI x1] S I2 R (fun S9 I9 R9 x9_ => Q S9 I9 R9))))) : CV G MX5_becomeNumber [vR x0, vI x1] S I R Q := by
  show E G MX5_becomeNumber 0 [(0, vR x0), (1, vI x1)] [] S I R (qV Q)
  refine e_aload_n 0 dX5_becomeNumber_0 rfl ?_
  refine e_iconst dX5_becomeNumber_1 (by unfold InR; decide) ?_
  have o1 := h.1
  replace h := h.2
  obtain ⟨I2, eI2⟩ : ∃ z : MI, z = up2 I x0 2 0 := ⟨_, rfl⟩
  replace h := h I2 eI2
  refine e_putI dX5_becomeNumber_2 flX5_24 rfl (Or.inl rfl) o1 (eqI eI2 ?_)
  refine e_aload_n 0 dX5_becomeNumber_5 rfl ?_
  refine e_ldc (x := 262143) dX5_becomeNumber_6 cnX5_54 (by unfold InR; decide) ?_
  refine e_iload_n 1 dX5_becomeNumber_8 rfl ?_
  refine i_VI (μ' := MX5_append) (ci := 4) (r := x0) (as := [vI 262143, vI x1]) (st := []) rfl dX5_becomeNumber_9 mOKX5_append ⟨mlX5_55, imX5_append, seX5_append⟩ (by decide) (Nat.le_of_ble_eq_true rfl) rfl (Nat.le_of_ble_eq_true rfl) ⟨by decide, rfl⟩ o1 (CI.mono h ?_)
  clear h
  intro S9 I9 R9 x9_ h
  refine e_pop dX5_becomeNumber_12 rfl ?_
  exact e_return dX5_becomeNumber_13 rfl ⟨rfl, h⟩

def vX5_low (I : MI) (R : MR) (x0 : Nat) : Int := (if (I x0 2) ≤ 0 then (-1) else (vX3_degree (I (R x0 0) (Int.toNat 0))))
def pX5_low (S : Sh) (I : MI) (R : MR) (x0 : Nat) : Prop := (sT S x0 = 5 ∧ (((I x0 2) ≤ 0 → True) ∧ (¬ ((I x0 2) ≤ 0) → (sT S (R x0 0) = 21 ∧ (((0 : Int) ≤ 0 ∧ 0 < (sL S (R x0 0) : Int)) ∧ True)))))
set_option maxRecDepth 100000 in
set_option maxHeartbeats 4000000 in
theorem sX5_low {G : Gl} {S : Sh} {I : MI} {R : MR} {Q : Sh → MI → MR → Int → Prop} {x0 : Nat} (hp : pX5_low S I R x0) (hq : Q S I R (vX5_low I R x0)) : CI G MX5_low [vR x0] S I R Q := by
  show E G MX5_low 0 [(0, vR x0)] [] S I R (qI Q)
  unfold vX5_low at hq
  unfold pX5_low at hp
  refine e_aload_n 0 dX5_low_0 rfl ?_
  have o1 := hp.1
  replace hp := hp.2
  refine e_getI dX5_low_1 flX5_24 rfl o1 ?_
  refine e_if_le (tgt := 19) dX5_low_4 (by decide) (fun c => ?_) (fun c => ?_)
  · rw [if_pos c] at hq
    replace hp := hp.1 c
    refine e_iconst dX5_low_19 (by unfold InR; decide) ?_
    exact e_ireturn dX5_low_20 rfl ⟨_, rfl, hq⟩
  · rw [if_neg c] at hq
    replace hp := hp.2 c
    refine e_aload_n 0 dX5_low_7 rfl ?_
    refine e_getR dX5_low_8 flX5_15 rfl o1 ?_
    refine e_iconst dX5_low_11 (by unfold InR; decide) ?_
    have o2 := hp.1
    replace hp := hp.2
    have o3 := hp.1
    replace hp := hp.2
    refine e_iald dX5_low_12 o2 o3 ?_
    refine i_SI (μ' := MX3_degree) (as := [vI (I (R x0 0) (Int.toNat 0))]) (st := []) rfl dX5_low_13 mOKX3_degree ⟨mlX5_28, stX3_degree⟩ (by decide) (Nat.le_of_ble_eq_true rfl) rfl (Nat.le_of_ble_eq_true rfl) (sX3_degree ?_)
    refine e_goto (tgt := 20) dX5_low_16 (by decide) ?_
    exact e_ireturn dX5_low_20 rfl ⟨_, rfl, hq⟩

def vX5_high (I : MI) (R : MR) (x0 : Nat) : Int := (if (I x0 2) ≤ 0 then (-1) else (vX3_degree (I (R x0 0) (Int.toNat (w32 ((I x0 2) - 1))))))
def pX5_high (S : Sh) (I : MI) (R : MR) (x0 : Nat) : Prop := (sT S x0 = 5 ∧ (((I x0 2) ≤ 0 → True) ∧ (¬ ((I x0 2) ≤ 0) → (sT S (R x0 0) = 21 ∧ (((0 : Int) ≤ (w32 ((I x0 2) - 1)) ∧ (w32 ((I x0 2) - 1)) < (sL S (R x0 0) : Int)) ∧ True)))))
set_option maxRecDepth 100000 in
set_option maxHeartbeats 4000000 in
theorem sX5_high {G : Gl} {S : Sh} {I : MI} {R : MR} {Q : Sh → MI → MR → Int → Prop} {x0 : Nat} (hp : pX5_high S I R x0) (hq : Q S I R (vX5_high I R x0)) : CI G MX5_high [vR x0] S I R Q := by
  show E G MX5_high 0 [(0, vR x0)] [] S I R (qI Q)
  unfold vX5_high at hq
  unfold pX5_high at hp
  refine e_aload_n 0 dX5_high_0 rfl ?_
  have o1 := hp.1
  replace hp := hp.2
  refine e_getI dX5_high_1 flX5_24 rfl o1 ?_
  refine e_if_le (tgt := 24) dX5_high_4 (by decide) (fun c => ?_) (fun c => ?_)
  · rw [if_pos c] at hq
    replace hp := hp.1 c
    refine e_iconst dX5_high_24 (by unfold InR; decide) ?_
    exact e_ireturn dX5_high_25 rfl ⟨_, rfl, hq⟩
  · rw [if_neg c] at hq
    replace hp := hp.2 c
    refine e_aload_n 0 dX5_high_7 rfl ?_
    refine e_getR dX5_high_8 flX5_15 rfl o1 ?_
    refine e_aload_n 0 dX5_high_11 rfl ?_
    refine e_getI dX5_high_12 flX5_24 rfl o1 ?_
    refine e_iconst dX5_high_15 (by unfold InR; decide) ?_
    refine e_isub dX5_high_16 ?_
    have o2 := hp.1
    replace hp := hp.2
    have o3 := hp.1
    replace hp := hp.2
    refine e_iald dX5_high_17 o2 o3 ?_
    refine i_SI (μ' := MX3_degree) (as := [vI (I (R x0 0) (Int.toNat (w32 ((I x0 2) - 1))))]) (st := []) rfl dX5_high_18 mOKX3_degree ⟨mlX5_28, stX3_degree⟩ (by decide) (Nat.le_of_ble_eq_true rfl) rfl (Nat.le_of_ble_eq_true rfl) (sX3_degree ?_)
    refine e_goto (tgt := 25) dX5_high_21 (by decide) ?_
    exact e_ireturn dX5_high_25 rfl ⟨_, rfl, hq⟩

def vX5_ecart (I : MI) (R : MR) (x0 : Nat) : Int := (if (I x0 2) ≤ 0 then (-1) else (w32 ((vX5_high I R x0) - (vX5_low I R x0))))
def pX5_ecart (S : Sh) (I : MI) (R : MR) (x0 : Nat) : Prop := (sT S x0 = 5 ∧ (((I x0 2) ≤ 0 → True) ∧ (¬ ((I x0 2) ≤ 0) → ((pX5_high S I R x0) ∧ ((pX5_low S I R x0) ∧ True)))))
set_option maxRecDepth 100000 in
set_option maxHeartbeats 4000000 in
theorem sX5_ecart {G : Gl} {S : Sh} {I : MI} {R : MR} {Q : Sh → MI → MR → Int → Prop} {x0 : Nat} (hp : pX5_ecart S I R x0) (hq : Q S I R (vX5_ecart I R x0)) : CI G MX5_ecart [vR x0] S I R Q := by
  show E G MX5_ecart 0 [(0, vR x0)] [] S I R (qI Q)
  unfold vX5_ecart at hq
  unfold pX5_ecart at hp
  refine e_aload_n 0 dX5_ecart_0 rfl ?_
  have o1 := hp.1
  replace hp := hp.2
  refine e_getI dX5_ecart_1 flX5_24 rfl o1 ?_
  refine e_if_le (tgt := 19) dX5_ecart_4 (by decide) (fun c => ?_) (fun c => ?_)
  · rw [if_pos c] at hq
    replace hp := hp.1 c
    refine e_iconst dX5_ecart_19 (by unfold InR; decide) ?_
    exact e_ireturn dX5_ecart_20 rfl ⟨_, rfl, hq⟩
  · rw [if_neg c] at hq
    replace hp := hp.2 c
    refine e_aload_n 0 dX5_ecart_7 rfl ?_
    have o2 := hp.1
    replace hp := hp.2
    refine i_VI (μ' := MX5_high) (ci := 4) (r := x0) (as := []) (st := []) rfl dX5_ecart_8 mOKX5_high ⟨mlX5_34, imX5_high, seX5_high⟩ (by decide) (Nat.le_of_ble_eq_true rfl) rfl (Nat.le_of_ble_eq_true rfl) ⟨by decide, rfl⟩ o1 (sX5_high o2 ?_)
    refine e_aload_n 0 dX5_ecart_11 rfl ?_
    have o3 := hp.1
    replace hp := hp.2
    refine i_VI (μ' := MX5_low) (ci := 4) (r := x0) (as := []) (st := [vI (vX5_high I R x0)]) rfl dX5_ecart_12 mOKX5_low ⟨mlX5_38, imX5_low, seX5_low⟩ (by decide) (Nat.le_of_ble_eq_true rfl) rfl (Nat.le_of_ble_eq_true rfl) ⟨by decide, rfl⟩ o1 (sX5_low o3 ?_)
    refine e_isub dX5_ecart_15 ?_
    refine e_goto (tgt := 20) dX5_ecart_16 (by decide) ?_
    exact e_ireturn dX5_ecart_20 rfl ⟨_, rfl, hq⟩

def LX5_mix_23 (G : Gl) (x0 : Nat) (x1 : Nat) (x2 : Int) (x3 : Int) (x4 : Nat) (x5 : Nat) (x6 : Int) (x7 : Int) (x8 : Int) (S : Sh) (I : MI) (R : MR) (Q : Sh → MI → MR → Int → Prop) : Prop := E G MX5_mix 23 [(0, vR x0), (1, vR x1), (2, vI x2), (3, vI x3), (4, vR x4), (5, vR x5), (6, vI x6), (7, vI x7), (8, vI x8)] [] S I R (qI Q)
def LX5_mix_47 (G : Gl) (x0 : Nat) (x1 : Nat) (x2 : Int) (x3 : Int) (x4 : Nat) (x5 : Nat) (x6 : Int) (x7 : Int) (x8 : Int) (S : Sh) (I : MI) (R : MR) (Q : Sh → MI → MR → Int → Prop) : Prop := E G MX5_mix 47 [(0, vR x0), (1, vR x1), (2, vI x2), (3, vI x3), (4, vR x4), (5, vR x5), (6, vI x6), (7, vI x7), (8, vI x8)] [] S I R (qI Q)
def LX5_mix_68 (G : Gl) (x0 : Nat) (x1 : Nat) (x2 : Int) (x3 : Int) (x4 : Nat) (x5 : Nat) (x6 : Int) (x7 : Int) (x8 : Int) (y0 : Int) (S : Sh) (I : MI) (R : MR) (Q : Sh → MI → MR → Int → Prop) : Prop := E G MX5_mix 68 [(0, vR x0), (1, vR x1), (2, vI x2), (3, vI x3), (4, vR x4), (5, vR x5), (6, vI x6), (7, vI x7), (8, vI x8)] [vI y0] S I R (qI Q)
def LX5_mix_97 (G : Gl) (x0 : Nat) (x1 : Nat) (x2 : Int) (x3 : Int) (x4 : Nat) (x5 : Nat) (x6 : Int) (x7 : Int) (x8 : Int) (x9 : Int) (y0 : Int) (S : Sh) (I : MI) (R : MR) (Q : Sh → MI → MR → Int → Prop) : Prop := E G MX5_mix 97 [(0, vR x0), (1, vR x1), (2, vI x2), (3, vI x3), (4, vR x4), (5, vR x5), (6, vI x6), (7, vI x7), (8, vI x8), (9, vI x9)] [vI y0] S I R (qI Q)
def LX5_mix_130 (G : Gl) (x0 : Nat) (x1 : Nat) (x2 : Int) (x3 : Int) (x4 : Nat) (x5 : Nat) (x6 : Int) (x7 : Int) (x8 : Int) (x9 : Int) (x10 : Int) (x11 : Int) (S : Sh) (I : MI) (R : MR) (Q : Sh → MI → MR → Int → Prop) : Prop := E G MX5_mix 130 [(0, vR x0), (1, vR x1), (2, vI x2), (3, vI x3), (4, vR x4), (5, vR x5), (6, vI x6), (7, vI x7), (8, vI x8), (9, vI x9), (10, vI x10), (11, vI x11)] [] S I R (qI Q)
def LX5_mix_168 (G : Gl) (x0 : Nat) (x1 : Nat) (x2 : Int) (x3 : Int) (x4 : Nat) (x5 : Nat) (x6 : Int) (x7 : Int) (x8 : Int) (x9 : Int) (x10 : Int) (x11 : Int) (S : Sh) (I : MI) (R : MR) (Q : Sh → MI → MR → Int → Prop) : Prop := E G MX5_mix 168 [(0, vR x0), (1, vR x1), (2, vI x2), (3, vI x3), (4, vR x4), (5, vR x5), (6, vI x6), (7, vI x7), (8, vI x8), (9, vI x9), (10, vI x10), (11, vI x11)] [] S I R (qI Q)
set_option maxRecDepth 100000 in
set_option maxHeartbeats 4000000 in
theorem bX5_mix {G : Gl} {S : Sh} {I : MI} {R : MR} {Q : Sh → MI → MR → Int → Prop} {x0 : Nat} {x1 : Nat} {x2 : Int} {x3 : Int} {x4 : Nat} {x5 : Nat} (h : (sT S x0 = 5 ∧ (∀ I2, I2 = up2 I x0 2 0 → (sT S x1 = 5 ∧ (sT S x4 = 5 ∧ LX5_mix_23 G x0 x1 x2 x3 x4 x5 0 0 (w32 ((I2 x1 2) + (I2 x4 2))) S I2 R Q))))) : CI G MX5_mix [vR x0, vR x1, vI x2, vI x3, vR x4, vR x5] S I R Q := by
  show E G MX5_mix 0 [(0, vR x0), (1, vR x1), (2, vI x2), (3, vI x3), (4, vR x4), (5, vR x5)] [] S I R (qI Q)
  refine e_aload_n 0 dX5_mix_0 rfl ?_
  refine e_iconst dX5_mix_1 (by unfold InR; decide) ?_
  have o1 := h.1
  replace h := h.2
  obtain ⟨I2, eI2⟩ : ∃ z : MI, z = up2 I x0 2 0 := ⟨_, rfl⟩
  replace h := h I2 eI2
  refine e_putI dX5_mix_2 flX5_24 rfl (Or.inl rfl) o1 (eqI eI2 ?_)
  refine e_iconst dX5_mix_5 (by unfold InR; decide) ?_
  refine e_istore (ls2 := [(6, vI 0), (0, vR x0), (1, vR x1), (2, vI x2), (3, vI x3), (4, vR x4), (5, vR x5)]) dX5_mix_6 (by decide) rfl ?_
  refine e_iconst dX5_mix_8 (by unfold InR; decide) ?_
  refine e_istore (ls2 := [(7, vI 0), (6, vI 0), (0, vR x0), (1, vR x1), (2, vI x2), (3, vI x3), (4, vR x4), (5, vR x5)]) dX5_mix_9 (by decide) rfl ?_
  refine e_aload_n 3 dX5_mix_11 rfl ?_
  have o2 := h.1
  replace h := h.2
  refine e_getI dX5_mix_12 flX5_24 rfl o2 ?_
  refine e_aload 6 dX5_mix_15 rfl ?_
  have o3 := h.1
  replace h := h.2
  refine e_getI dX5_mix_17 flX5_24 rfl o3 ?_
  refine e_iadd dX5_mix_20 ?_
  refine e_istore (ls2 := [(8, vI (w32 ((I2 x1 2) + (I2 x4 2)))), (7, vI 0), (6, vI 0), (0, vR x0), (1, vR x1), (2, vI x2), (3, vI x3), (4, vR x4), (5, vR x5)]) dX5_mix_21 (by decide) rfl ?_
  exact e_sub (ls2 := [(0, vR x0), (1, vR x1), (2, vI x2), (3, vI x3), (4, vR x4), (5, vR x5), (6, vI 0), (7, vI 0), (8, vI (w32 ((I2 x1 2) + (I2 x4 2))))]) [3, 4, 5, 6, 7, 8, 2, 1, 0] rfl h
set_option maxRecDepth 100000 in
set_option maxHeartbeats 4000000 in
theorem bX5_mix_23 {G : Gl} {S : Sh} {I : MI} {R : MR} {Q : Sh → MI → MR → Int → Prop} {x0 : Nat} {x1 : Nat} {x2 : Int} {x3 : Int} {x4 : Nat} {x5 : Nat} {x6 : Int} {x7 : Int} {x8 : Int} (h : ((x8 ≤ 0 → Q S I R 1) ∧ (¬ (x8 ≤ 0) → (sT S x1 = 5 ∧ ((x6 < (I x1 2) → LX5_mix_47 G x0 x1 x2 x3 x4 x5 x6 x7 x8 S I R Q) ∧ (¬ (x6 < (I x1 2)) → (sT S x4 = 5 ∧ (((I x4 2) ≤ x7 → Q S I R 1) ∧ (¬ ((I x4 2) ≤ x7) → LX5_mix_47 G x0 x1 x2 x3 x4 x5 x6 x7 x8 S I R Q))))))))) : LX5_mix_23 G x0 x1 x2 x3 x4 x5 x6 x7 x8 S I R Q := by
  show E G MX5_mix 23 [(0, vR x0), (1, vR x1), (2, vI x2), (3, vI x3), (4, vR x4), (5, vR x5), (6, vI x6), (7, vI x7), (8, vI x8)] [] S I R (qI Q)
  refine e_iload 8 dX5_mix_23 rfl ?_
  refine e_if_le (tgt := 197) dX5_mix_25 (by decide) (fun c => ?_) (fun c => ?_)
  · replace h := h.1 c
    refine e_iconst dX5_mix_197 (by unfold InR; decide) ?_
    exact e_zreturn dX5_mix_198 rfl (by decide) ⟨_, rfl, h⟩
  · replace h := h.2 c
    refine e_iload 6 dX5_mix_28 rfl ?_
    refine e_aload_n 1 dX5_mix_30 rfl ?_
    have o4 := h.1
    replace h := h.2
    refine e_getI dX5_mix_31 flX5_24 rfl o4 ?_
    refine e_icmp_lt (tgt := 47) dX5_mix_34 (by decide) (fun c => ?_) (fun c => ?_)
    · replace h := h.1 c
      exact e_sub (ls2 := [(0, vR x0), (1, vR x1), (2, vI x2), (3, vI x3), (4, vR x4), (5, vR x5), (6, vI x6), (7, vI x7), (8, vI x8)]) [0, 1, 2, 3, 4, 5, 6, 7, 8] rfl h
    · replace h := h.2 c
      refine e_iload 7 dX5_mix_37 rfl ?_
      refine e_aload 4 dX5_mix_39 rfl ?_
      have o5 := h.1
      replace h := h.2
      refine e_getI dX5_mix_41 flX5_24 rfl o5 ?_
      refine e_icmp_ge (tgt := 197) dX5_mix_44 (by decide) (fun c => ?_) (fun c => ?_)
      · replace h := h.1 c
        refine e_iconst dX5_mix_197 (by unfold InR; decide) ?_
        exact e_zreturn dX5_mix_198 rfl (by decide) ⟨_, rfl, h⟩
      · replace h := h.2 c
        exact e_sub (ls2 := [(0, vR x0), (1, vR x1), (2, vI x2), (3, vI x3), (4, vR x4), (5, vR x5), (6, vI x6), (7, vI x7), (8, vI x8)]) [0, 1, 2, 3, 4, 5, 6, 7, 8] rfl h
set_option maxRecDepth 100000 in
set_option maxHeartbeats 4000000 in
theorem bX5_mix_47 {G : Gl} {S : Sh} {I : MI} {R : MR} {Q : Sh → MI → MR → Int → Prop} {x0 : Nat} {x1 : Nat} {x2 : Int} {x3 : Int} {x4 : Nat} {x5 : Nat} {x6 : Int} {x7 : Int} {x8 : Int} (h : (sT S x1 = 5 ∧ (((I x1 2) ≤ x6 → LX5_mix_68 G x0 x1 x2 x3 x4 x5 x6 x7 x8 2147483647 S I R Q) ∧ (¬ ((I x1 2) ≤ x6) → (sT S (R x1 0) = 21 ∧ (((0 : Int) ≤ x6 ∧ x6 < (sL S (R x1 0) : Int)) ∧ LX5_mix_68 G x0 x1 x2 x3 x4 x5 x6 x7 x8 (I (R x1 0) (Int.toNat x6)) S I R Q)))))) : LX5_mix_47 G x0 x1 x2 x3 x4 x5 x6 x7 x8 S I R Q := by
  show E G MX5_mix 47 [(0, vR x0), (1, vR x1), (2, vI x2), (3, vI x3), (4, vR x4), (5, vR x5), (6, vI x6), (7, vI x7), (8, vI x8)] [] S I R (qI Q)
  refine e_iload 6 dX5_mix_47 rfl ?_
  refine e_aload_n 1 dX5_mix_49 rfl ?_
  have o6 := h.1
  replace h := h.2
  refine e_getI dX5_mix_50 flX5_24 rfl o6 ?_
  refine e_icmp_ge (tgt := 66) dX5_mix_53 (by decide) (fun c => ?_) (fun c => ?_)
  · replace h := h.1 c
    refine e_ldc (x := 2147483647) dX5_mix_66 cnX5_79 (by unfold InR; decide) ?_
    exact e_sub (ls2 := [(0, vR x0), (1, vR x1), (2, vI x2), (3, vI x3), (4, vR x4), (5, vR x5), (6, vI x6), (7, vI x7), (8, vI x8)]) [0, 1, 2, 3, 4, 5, 6, 7, 8] rfl h
  · replace h := h.2 c
    refine e_aload_n 1 dX5_mix_56 rfl ?_
    refine e_getR dX5_mix_57 flX5_15 rfl o6 ?_
    refine e_iload 6 dX5_mix_60 rfl ?_
    have o7 := h.1
    replace h := h.2
    have o8 := h.1
    replace h := h.2
    refine e_iald dX5_mix_62 o7 o8 ?_
    refine e_goto (tgt := 68) dX5_mix_63 (by decide) ?_
    exact e_sub (ls2 := [(0, vR x0), (1, vR x1), (2, vI x2), (3, vI x3), (4, vR x4), (5, vR x5), (6, vI x6), (7, vI x7), (8, vI x8)]) [0, 1, 2, 3, 4, 5, 6, 7, 8] rfl h
set_option maxRecDepth 100000 in
set_option maxHeartbeats 4000000 in
theorem bX5_mix_68 {G : Gl} {S : Sh} {I : MI} {R : MR} {Q : Sh → MI → MR → Int → Prop} {x0 : Nat} {x1 : Nat} {x2 : Int} {x3 : Int} {x4 : Nat} {x5 : Nat} {x6 : Int} {x7 : Int} {x8 : Int} {y0 : Int} (h : (sT S x4 = 5 ∧ (((I x4 2) ≤ x7 → LX5_mix_97 G x0 x1 x2 x3 x4 x5 x6 x7 x8 y0 2147483647 S I R Q) ∧ (¬ ((I x4 2) ≤ x7) → (sT S (R x4 0) = 21 ∧ (((0 : Int) ≤ x7 ∧ x7 < (sL S (R x4 0) : Int)) ∧ LX5_mix_97 G x0 x1 x2 x3 x4 x5 x6 x7 x8 y0 (vX3_times (I (R x4 0) (Int.toNat x7)) x3) S I R Q)))))) : LX5_mix_68 G x0 x1 x2 x3 x4 x5 x6 x7 x8 y0 S I R Q := by
  show E G MX5_mix 68 [(0, vR x0), (1, vR x1), (2, vI x2), (3, vI x3), (4, vR x4), (5, vR x5), (6, vI x6), (7, vI x7), (8, vI x8)] [vI y0] S I R (qI Q)
  refine e_istore (ls2 := [(9, vI y0), (0, vR x0), (1, vR x1), (2, vI x2), (3, vI x3), (4, vR x4), (5, vR x5), (6, vI x6), (7, vI x7), (8, vI x8)]) dX5_mix_68 (by decide) rfl ?_
  refine e_iload 8 dX5_mix_70 rfl ?_
  refine e_aload 5 dX5_mix_72 rfl ?_
  have o9 := h.1
  replace h := h.2
  refine e_getI dX5_mix_74 flX5_24 rfl o9 ?_
  refine e_icmp_ge (tgt := 95) dX5_mix_77 (by decide) (fun c => ?_) (fun c => ?_)
  · replace h := h.1 c
    refine e_ldc (x := 2147483647) dX5_mix_95 cnX5_79 (by unfold InR; decide) ?_
    exact e_sub (ls2 := [(0, vR x0), (1, vR x1), (2, vI x2), (3, vI x3), (4, vR x4), (5, vR x5), (6, vI x6), (7, vI x7), (8, vI x8), (9, vI y0)]) [1, 2, 3, 4, 5, 6, 7, 8, 9, 0] rfl h
  · replace h := h.2 c
    refine e_aload 5 dX5_mix_80 rfl ?_
    refine e_getR dX5_mix_82 flX5_15 rfl o9 ?_
    refine e_iload 8 dX5_mix_85 rfl ?_
    have o10 := h.1
    replace h := h.2
    have o11 := h.1
    replace h := h.2
    refine e_iald dX5_mix_87 o10 o11 ?_
    refine e_iload_n 4 dX5_mix_88 rfl ?_
    refine i_SI (μ' := MX3_times) (as := [vI (I (R x4 0) (Int.toNat x7)), vI x3]) (st := []) rfl dX5_mix_89 mOKX3_times ⟨mlX5_80, stX3_times⟩ (by decide) (Nat.le_of_ble_eq_true rfl) rfl (Nat.le_of_ble_eq_true rfl) (sX3_times ?_)
    refine e_goto (tgt := 97) dX5_mix_92 (by decide) ?_
    exact e_sub (ls2 := [(0, vR x0), (1, vR x1), (2, vI x2), (3, vI x3), (4, vR x4), (5, vR x5), (6, vI x6), (7, vI x7), (8, vI x8), (9, vI y0)]) [1, 2, 3, 4, 5, 6, 7, 8, 9, 0] rfl h
set_option maxRecDepth 100000 in
set_option maxHeartbeats 4000000 in
theorem bX5_mix_97 {G : Gl} {S : Sh} {I : MI} {R : MR} {Q : Sh → MI → MR → Int → Prop} {x0 : Nat} {x1 : Nat} {x2 : Int} {x3 : Int} {x4 : Nat} {x5 : Nat} {x6 : Int} {x7 : Int} {x8 : Int} {x9 : Int} {y0 : Int} (h : ((y0 < x9 → LX5_mix_130 G x0 x1 x2 x3 x4 x5 x6 x7 x8 x9 y0 0 S I R Q) ∧ (¬ (y0 < x9) → (sT S x1 = 5 ∧ (((I x1 2) ≤ x6 → LX5_mix_130 G x0 x1 x2 x3 x4 x5 x6 x7 x8 x9 y0 0 S I R Q) ∧ (¬ ((I x1 2) ≤ x6) → (sT S (R x1 1) = 21 ∧ (((0 : Int) ≤ x6 ∧ x6 < (sL S (R x1 1) : Int)) ∧ LX5_mix_130 G x0 x1 x2 x3 x4 x5 (w32 (x6 + 1)) x7 x8 x9 y0 (I (R x1 1) (Int.toNat x6)) S I R Q)))))))) : LX5_mix_97 G x0 x1 x2 x3 x4 x5 x6 x7 x8 x9 y0 S I R Q := by
  show E G MX5_mix 97 [(0, vR x0), (1, vR x1), (2, vI x2), (3, vI x3), (4, vR x4), (5, vR x5), (6, vI x6), (7, vI x7), (8, vI x8), (9, vI x9)] [vI y0] S I R (qI Q)
  refine e_istore (ls2 := [(10, vI y0), (0, vR x0), (1, vR x1), (2, vI x2), (3, vI x3), (4, vR x4), (5, vR x5), (6, vI x6), (7, vI x7), (8, vI x8), (9, vI x9)]) dX5_mix_97 (by decide) rfl ?_
  refine e_iconst dX5_mix_99 (by unfold InR; decide) ?_
  refine e_istore (ls2 := [(11, vI 0), (10, vI y0), (0, vR x0), (1, vR x1), (2, vI x2), (3, vI x3), (4, vR x4), (5, vR x5), (6, vI x6), (7, vI x7), (8, vI x8), (9, vI x9)]) dX5_mix_100 (by decide) rfl ?_
  refine e_iload 11 dX5_mix_102 rfl ?_
  refine e_iload 1 dX5_mix_104 rfl ?_
  refine e_icmp_gt (tgt := 130) dX5_mix_106 (by decide) (fun c => ?_) (fun c => ?_)
  · replace h := h.1 c
    exact e_sub (ls2 := [(0, vR x0), (1, vR x1), (2, vI x2), (3, vI x3), (4, vR x4), (5, vR x5), (6, vI x6), (7, vI x7), (8, vI x8), (9, vI x9), (10, vI y0), (11, vI 0)]) [2, 3, 4, 5, 6, 7, 8, 9, 10, 11, 1, 0] rfl h
  · replace h := h.2 c
    refine e_iload 8 dX5_mix_109 rfl ?_
    refine e_aload_n 3 dX5_mix_111 rfl ?_
    have o12 := h.1
    replace h := h.2
    refine e_getI dX5_mix_112 flX5_24 rfl o12 ?_
    refine e_icmp_ge (tgt := 130) dX5_mix_115 (by decide) (fun c => ?_) (fun c => ?_)
    · replace h := h.1 c
      exact e_sub (ls2 := [(0, vR x0), (1, vR x1), (2, vI x2), (3, vI x3), (4, vR x4), (5, vR x5), (6, vI x6), (7, vI x7), (8, vI x8), (9, vI x9), (10, vI y0), (11, vI 0)]) [2, 3, 4, 5, 6, 7, 8, 9, 10, 11, 1, 0] rfl h
    · replace h := h.2 c
      refine e_aload_n 3 dX5_mix_118 rfl ?_
      refine e_getR dX5_mix_119 flX5_21 rfl o12 ?_
      refine e_iload 8 dX5_mix_122 rfl ?_
      have o13 := h.1
      replace h := h.2
      have o14 := h.1
      replace h := h.2
      refine e_iald dX5_mix_124 o13 o14 ?_
      refine e_istore (ls2 := [(11, vI (I (R x1 1) (Int.toNat x6))), (10, vI y0), (0, vR x0), (1, vR x1), (2, vI x2), (3, vI x3), (4, vR x4), (5, vR x5), (6, vI x6), (7, vI x7), (8, vI x8), (9, vI x9)]) dX5_mix_125 (by decide) rfl ?_
      refine e_iinc (ls2 := [(6, vI (w32 (x6 + 1))), (11, vI (I (R x1 1) (Int.toNat x6))), (10, vI y0), (0, vR x0), (1, vR x1), (2, vI x2), (3, vI x3), (4, vR x4), (5, vR x5), (7, vI x7), (8, vI x8), (9, vI x9)]) 8 dX5_mix_127 rfl (by decide) rfl ?_
      exact e_sub (ls2 := [(0, vR x0), (1, vR x1), (2, vI x2), (3, vI x3), (4, vR x4), (5, vR x5), (6, vI (w32 (x6 + 1))), (7, vI x7), (8, vI x8), (9, vI x9), (10, vI y0), (11, vI (I (R x1 1) (Int.toNat x6)))]) [3, 4, 5, 6, 7, 8, 0, 9, 10, 11, 2, 1] rfl h
set_option maxRecDepth 100000 in
set_option maxHeartbeats 4000000 in
theorem bX5_mix_130 {G : Gl} {S : Sh} {I : MI} {R : MR} {Q : Sh → MI → MR → Int → Prop} {x0 : Nat} {x1 : Nat} {x2 : Int} {x3 : Int} {x4 : Nat} {x5 : Nat} {x6 : Int} {x7 : Int} {x8 : Int} {x9 : Int} {x10 : Int} {x11 : Int} (h : ((x9 < x10 → LX5_mix_168 G x0 x1 x2 x3 x4 x5 x6 x7 x8 x9 x10 x11 S I R Q) ∧ (¬ (x9 < x10) → (sT S x4 = 5 ∧ (((I x4 2) ≤ x7 → LX5_mix_168 G x0 x1 x2 x3 x4 x5 x6 x7 x8 x9 x10 x11 S I R Q) ∧ (¬ ((I x4 2) ≤ x7) → (sT S (R x4 1) = 21 ∧ (((0 : Int) ≤ x7 ∧ x7 < (sL S (R x4 1) : Int)) ∧ (sT S x5 = 4 ∧ ((pX4_plusTimes S I x5 x11 x2 (I (R x4 1) (Int.toNat x7))) ∧ LX5_mix_168 G x0 x1 x2 x3 x4 x5 x6 (w32 (x7 + 1)) x8 x9 x10 (vX4_plusTimes I x5 x11 x2 (I (R x4 1) (Int.toNat x7))) S I R Q)))))))))) : LX5_mix_130 G x0 x1 x2 x3 x4 x5 x6 x7 x8 x9 x10 x11 S I R Q := by
  show E G MX5_mix 130 [(0, vR x0), (1, vR x1), (2, vI x2), (3, vI x3), (4, vR x4), (5, vR x5), (6, vI x6), (7, vI x7), (8, vI x8), (9, vI x9), (10, vI x10), (11, vI x11)] [] S I R (qI Q)
  refine e_iload 10 dX5_mix_130 rfl ?_
  refine e_iload 9 dX5_mix_132 rfl ?_
  refine e_icmp_gt (tgt := 168) dX5_mix_134 (by decide) (fun c => ?_) (fun c => ?_)
  · replace h := h.1 c
    exact e_sub (ls2 := [(0, vR x0), (1, vR x1), (2, vI x2), (3, vI x3), (4, vR x4), (5, vR x5), (6, vI x6), (7, vI x7), (8, vI x8), (9, vI x9), (10, vI x10), (11, vI x11)]) [0, 1, 2, 3, 4, 5, 6, 7, 8, 9, 10, 11] rfl h
  · replace h := h.2 c
    refine e_iload 7 dX5_mix_137 rfl ?_
    refine e_aload 4 dX5_mix_139 rfl ?_
    have o15 := h.1
    replace h := h.2
    refine e_getI dX5_mix_141 flX5_24 rfl o15 ?_
    refine e_icmp_ge (tgt := 168) dX5_mix_144 (by decide) (fun c => ?_) (fun c => ?_)
    · replace h := h.1 c
      exact e_sub (ls2 := [(0, vR x0), (1, vR x1), (2, vI x2), (3, vI x3), (4, vR x4), (5, vR x5), (6, vI x6), (7, vI x7), (8, vI x8), (9, vI x9), (10, vI x10), (11, vI x11)]) [0, 1, 2, 3, 4, 5, 6, 7, 8, 9, 10, 11] rfl h
    · replace h := h.2 c
      refine e_aload 5 dX5_mix_147 rfl ?_
      refine e_iload 11 dX5_mix_149 rfl ?_
      refine e_iload_n 2 dX5_mix_151 rfl ?_
      refine e_aload 4 dX5_mix_152 rfl ?_
      refine e_getR dX5_mix_154 flX5_21 rfl o15 ?_
      refine e_iload 7 dX5_mix_157 rfl ?_
      have o16 := h.1
      replace h := h.2
      have o17 := h.1
      replace h := h.2
      refine e_iald dX5_mix_159 o16 o17 ?_
      have o18 := h.1
      replace h := h.2
      have o19 := h.1
      replace h := h.2
      refine i_VI (μ' := MX4_plusTimes) (ci := 3) (r := x5) (as := [vI x11, vI x2, vI (I (R x4 1) (Int.toNat x7))]) (st := []) rfl dX5_mix_160 mOKX4_plusTimes ⟨mlX5_81, imX4_plusTimes, seX4_plusTimes⟩ (by decide) (Nat.le_of_ble_eq_true rfl) rfl (Nat.le_of_ble_eq_true rfl) ⟨by decide, rfl⟩ o18 (sX4_plusTimes o19 ?_)
      refine e_istore (ls2 := [(11, vI (vX4_plusTimes I x5 x11 x2 (I (R x4 1) (Int.toNat x7)))), (0, vR x0), (1, vR x1), (2, vI x2), (3, vI x3), (4, vR x4), (5, vR x5), (6, vI x6), (7, vI x7), (8, vI x8), (9, vI x9), (10, vI x10)]) dX5_mix_163 (by decide) rfl ?_
      refine e_iinc (ls2 := [(7, vI (w32 (x7 + 1))), (11, vI (vX4_plusTimes I x5 x11 x2 (I (R x4 1) (Int.toNat x7)))), (0, vR x0), (1, vR x1), (2, vI x2), (3, vI x3), (4, vR x4), (5, vR x5), (6, vI x6), (8, vI x8), (9, vI x9), (10, vI x10)]) 8 dX5_mix_165 rfl (by decide) rfl ?_
      exact e_sub (ls2 := [(0, vR x0), (1, vR x1), (2, vI x2), (3, vI x3), (4, vR x4), (5, vR x5), (6, vI x6), (7, vI (w32 (x7 + 1))), (8, vI x8), (9, vI x9), (10, vI x10), (11, vI (vX4_plusTimes I x5 x11 x2 (I (R x4 1) (Int.toNat x7))))]) [2, 3, 4, 5, 6, 7, 8, 0, 9, 10, 11, 1] rfl h
set_option maxRecDepth 100000 in
set_option maxHeartbeats 4000000 in
theorem bX5_mix_168 {G : Gl} {S : Sh} {I : MI} {R : MR} {Q : Sh → MI → MR → Int → Prop} {x0 : Nat} {x1 : Nat} {x2 : Int} {x3 : Int} {x4 : Nat} {x5 : Nat} {x6 : Int} {x7 : Int} {x8 : Int} {x9 : Int} {x10 : Int} {x11 : Int} (h : ((x11 = 0 → LX5_mix_23 G x0 x1 x2 x3 x4 x5 x6 x7 (w32 (x8 + (-1))) S I R Q) ∧ (¬ (x11 = 0) → (sT S x0 = 5 ∧ (CI G MX5_append [vR x0, vI (min x9 x10), vI x11] S I R (fun S183 I183 R183 x183_ => ((x183_ ≠ 0 → LX5_mix_23 G x0 x1 x2 x3 x4 x5 x6 x7 (w32 (x8 + (-1))) S183 I183 R183 Q) ∧ (¬ (x183_ ≠ 0) → Q S183 I183 R183 0)))))))) : LX5_mix_168 G x0 x1 x2 x3 x4 x5 x6 x7 x8 x9 x10 x11 S I R Q := by
  show E G MX5_mix 168 [(0, vR x0), (1, vR x1), (2, vI x2), (3, vI x3), (4, vR x4), (5, vR x5), (6, vI x6), (7, vI x7), (8, vI x8), (9, vI x9), (10, vI x10), (11, vI x11)] [] S I R (qI Q)
  refine e_iload 11 dX5_mix_168 rfl ?_
  refine e_if_eq (tgt := 191) dX5_mix_170 (by decide) (fun c => ?_) (fun c => ?_)
  · replace h := h.1 c
    refine e_iinc (ls2 := [(8, vI (w32 (x8 + (-1)))), (0, vR x0), (1, vR x1), (2, vI x2), (3, vI x3), (4, vR x4), (5, vR x5), (6, vI x6), (7, vI x7), (9, vI x9), (10, vI x10), (11, vI x11)]) 8 dX5_mix_191 rfl (by decide) rfl ?_
    refine e_goto (tgt := 23) dX5_mix_194 (by decide) ?_
    exact e_sub (ls2 := [(0, vR x0), (1, vR x1), (2, vI x2), (3, vI x3), (4, vR x4), (5, vR x5), (6, vI x6), (7, vI x7), (8, vI (w32 (x8 + (-1))))]) [1, 2, 3, 4, 5, 6, 7, 8, 0] rfl h
  · replace h := h.2 c
    refine e_aload_n 0 dX5_mix_173 rfl ?_
    refine e_iload 9 dX5_mix_174 rfl ?_
    refine e_iload 10 dX5_mix_176 rfl ?_
    refine e_mmin dX5_mix_178 mmX5_45 mxmin (by decide) (Nat.le_of_ble_eq_true rfl) ?_
    refine e_iload 11 dX5_mix_181 rfl ?_
    have o20 := h.1
    replace h := h.2
    refine i_VI (μ' := MX5_append) (ci := 4) (r := x0) (as := [vI (min x9 x10), vI x11]) (st := []) rfl dX5_mix_183 mOKX5_append ⟨mlX5_55, imX5_append, seX5_append⟩ (by decide) (Nat.le_of_ble_eq_true rfl) rfl (Nat.le_of_ble_eq_true rfl) ⟨by decide, rfl⟩ o20 (CI.mono h ?_)
    clear h
    intro S183 I183 R183 x183_ h
    refine e_if_ne (tgt := 191) dX5_mix_186 (by decide) (fun c => ?_) (fun c => ?_)
    · replace h := h.1 c
      refine e_iinc (ls2 := [(8, vI (w32 (x8 + (-1)))), (0, vR x0), (1, vR x1), (2, vI x2), (3, vI x3), (4, vR x4), (5, vR x5), (6, vI x6), (7, vI x7), (9, vI x9), (10, vI x10), (11, vI x11)]) 8 dX5_mix_191 rfl (by decide) rfl ?_
      refine e_goto (tgt := 23) dX5_mix_194 (by decide) ?_
      exact e_sub (ls2 := [(0, vR x0), (1, vR x1), (2, vI x2), (3, vI x3), (4, vR x4), (5, vR x5), (6, vI x6), (7, vI x7), (8, vI (w32 (x8 + (-1))))]) [1, 2, 3, 4, 5, 6, 7, 8, 0] rfl h
    · replace h := h.2 c
      refine e_iconst dX5_mix_189 (by unfold InR; decide) ?_
      exact e_zreturn dX5_mix_190 rfl (by decide) ⟨_, rfl, h⟩

def LX5_insert_19 (G : Gl) (x0 : Nat) (x1 : Int) (x2 : Int) (x3 : Int) (x4 : Int) (S : Sh) (I : MI) (R : MR) (Q : Sh → MI → MR → Prop) : Prop := E G MX5_insert 19 [(0, vR x0), (1, vI x1), (2, vI x2), (3, vI x3), (4, vI x4)] [] S I R (qV Q)
def LX5_insert_68 (G : Gl) (x0 : Nat) (x1 : Int) (x2 : Int) (x3 : Int) (S : Sh) (I : MI) (R : MR) (Q : Sh → MI → MR → Prop) : Prop := E G MX5_insert 68 [(0, vR x0), (1, vI x1), (2, vI x2), (3, vI x3)] [] S I R (qV Q)
set_option maxRecDepth 100000 in
set_option maxHeartbeats 4000000 in
theorem bX5_insert {G : Gl} {S : Sh} {I : MI} {R : MR} {Q : Sh → MI → MR → Prop} {x0 : Nat} {x1 : Int} {x2 : Int} {x3 : Int} (h : (sT S x0 = 5 ∧ (21 ≤ sT S (R x0 0) ∧ (((I x0 2) < (sL S (R x0 0) : Int) → LX5_insert_19 G x0 x1 x2 x3 (I x0 2) S I R Q) ∧ (¬ ((I x0 2) < (sL S (R x0 0) : Int)) → Q S I R))))) : CV G MX5_insert [vR x0, vI x1, vI x2, vI x3] S I R Q := by
  show E G MX5_insert 0 [(0, vR x0), (1, vI x1), (2, vI x2), (3, vI x3)] [] S I R (qV Q)
  refine e_aload_n 0 dX5_insert_0 rfl ?_
  have o1 := h.1
  replace h := h.2
  refine e_getI dX5_insert_1 flX5_24 rfl o1 ?_
  refine e_aload_n 0 dX5_insert_4 rfl ?_
  refine e_getR dX5_insert_5 flX5_15 rfl o1 ?_
  have o2 := h.1
  replace h := h.2
  refine e_alen dX5_insert_8 o2 ?_
  refine e_icmp_lt (tgt := 13) dX5_insert_9 (by decide) (fun c => ?_) (fun c => ?_)
  · replace h := h.1 c
    refine e_aload_n 0 dX5_insert_13 rfl ?_
    refine e_getI dX5_insert_14 flX5_24 rfl o1 ?_
    refine e_istore (ls2 := [(4, vI (I x0 2)), (0, vR x0), (1, vI x1), (2, vI x2), (3, vI x3)]) dX5_insert_17 (by decide) rfl ?_
    exact e_sub (ls2 := [(0, vR x0), (1, vI x1), (2, vI x2), (3, vI x3), (4, vI (I x0 2))]) [1, 2, 3, 4, 0] rfl h
  · replace h := h.2 c
    exact e_return dX5_insert_12 rfl ⟨rfl, h⟩
set_option maxRecDepth 100000 in
set_option maxHeartbeats 4000000 in
theorem bX5_insert_19 {G : Gl} {S : Sh} {I : MI} {R : MR} {Q : Sh → MI → MR → Prop} {x0 : Nat} {x1 : Int} {x2 : Int} {x3 : Int} {x4 : Int} (h : ((x4 ≤ x1 → LX5_insert_68 G x0 x1 x2 x3 S I R Q) ∧ (¬ (x4 ≤ x1) → ((x4 ≤ 0 → LX5_insert_68 G x0 x1 x2 x3 S I R Q) ∧ (¬ (x4 ≤ 0) → (sT S x0 = 5 ∧ (sT S (R x0 0) = 21 ∧ (((0 : Int) ≤ (w32 (x4 - 1)) ∧ (w32 (x4 - 1)) < (sL S (R x0 0) : Int)) ∧ (((0 : Int) ≤ x4 ∧ x4 < (sL S (R x0 0) : Int)) ∧ (∀ I45, I45 = up2 I (R x0 0) (Int.toNat x4) (I (R x0 0) (Int.toNat (w32 (x4 - 1)))) → (sT S (R x0 1) = 21 ∧ (((0 : Int) ≤ (w32 (x4 - 1)) ∧ (w32 (x4 - 1)) < (sL S (R x0 1) : Int)) ∧ (((0 : Int) ≤ x4 ∧ x4 < (sL S (R x0 1) : Int)) ∧ (∀ I61, I61 = up2 I45 (R x0 1) (Int.toNat x4) (I45 (R x0 1) (Int.toNat (w32 (x4 - 1)))) → LX5_insert_19 G x0 x1 x2 x3 (w32 (x4 + (-1))) S I61 R Q)))))))))))))) : LX5_insert_19 G x0 x1 x2 x3 x4 S I R Q := by
  show E G MX5_insert 19 [(0, vR x0), (1, vI x1), (2, vI x2), (3, vI x3), (4, vI x4)] [] S I R (qV Q)
  refine e_iload 4 dX5_insert_19 rfl ?_
  refine e_iload_n 1 dX5_insert_21 rfl ?_
  refine e_icmp_le (tgt := 68) dX5_insert_22 (by decide) (fun c => ?_) (fun c => ?_)
  · replace h := h.1 c
    exact e_sub (ls2 := [(0, vR x0), (1, vI x1), (2, vI x2), (3, vI x3)]) [0, 1, 2, 3] rfl h
  · replace h := h.2 c
    refine e_iload 4 dX5_insert_25 rfl ?_
    refine e_if_le (tgt := 68) dX5_insert_27 (by decide) (fun c => ?_) (fun c => ?_)
    · replace h := h.1 c
      exact e_sub (ls2 := [(0, vR x0), (1, vI x1), (2, vI x2), (3, vI x3)]) [0, 1, 2, 3] rfl h
    · replace h := h.2 c
      refine e_aload_n 0 dX5_insert_30 rfl ?_
      have o3 := h.1
      replace h := h.2
      refine e_getR dX5_insert_31 flX5_15 rfl o3 ?_
      refine e_iload 4 dX5_insert_34 rfl ?_
      refine e_aload_n 0 dX5_insert_36 rfl ?_
      refine e_getR dX5_insert_37 flX5_15 rfl o3 ?_
      refine e_iload 4 dX5_insert_40 rfl ?_
      refine e_iconst dX5_insert_42 (by unfold InR; decide) ?_
      refine e_isub dX5_insert_43 ?_
      have o4 := h.1
      replace h := h.2
      have o5 := h.1
      replace h := h.2
      refine e_iald dX5_insert_44 o4 o5 ?_
      have o6 := h.1
      replace h := h.2
      obtain ⟨I45, eI45⟩ : ∃ z : MI, z = up2 I (R x0 0) (Int.toNat x4) (I (R x0 0) (Int.toNat (w32 (x4 - 1)))) := ⟨_, rfl⟩
      replace h := h I45 eI45
      refine e_iast dX5_insert_45 o4 o6 (eqI eI45 ?_)
      refine e_aload_n 0 dX5_insert_46 rfl ?_
      refine e_getR dX5_insert_47 flX5_21 rfl o3 ?_
      refine e_iload 4 dX5_insert_50 rfl ?_
      refine e_aload_n 0 dX5_insert_52 rfl ?_
      refine e_getR dX5_insert_53 flX5_21 rfl o3 ?_
      refine e_iload 4 dX5_insert_56 rfl ?_
      refine e_iconst dX5_insert_58 (by unfold InR; decide) ?_
      refine e_isub dX5_insert_59 ?_
      have o7 := h.1
      replace h := h.2
      have o8 := h.1
      replace h := h.2
      refine e_iald dX5_insert_60 o7 o8 ?_
      have o9 := h.1
      replace h := h.2
      obtain ⟨I61, eI61⟩ : ∃ z : MI, z = up2 I45 (R x0 1) (Int.toNat x4) (I45 (R x0 1) (Int.toNat (w32 (x4 - 1)))) := ⟨_, rfl⟩
      replace h := h I61 eI61
      refine e_iast dX5_insert_61 o7 o9 (eqI eI61 ?_)
      refine e_iinc (ls2 := [(4, vI (w32 (x4 + (-1)))), (0, vR x0), (1, vI x1), (2, vI x2), (3, vI x3)]) 4 dX5_insert_62 rfl (by decide) rfl ?_
      refine e_goto (tgt := 19) dX5_insert_65 (by decide) ?_
      exact e_sub (ls2 := [(0, vR x0), (1, vI x1), (2, vI x2), (3, vI x3), (4, vI (w32 (x4 + (-1))))]) [1, 2, 3, 4, 0] rfl h
set_option maxRecDepth 100000 in
set_option maxHeartbeats 4000000 in
theorem bX5_insert_68 {G : Gl} {S : Sh} {I : MI} {R : MR} {Q : Sh → MI → MR → Prop} {x0 : Nat} {x1 : Int} {x2 : Int} {x3 : Int} (h : ((x1 < 0 → Q S I R) ∧ (¬ (x1 < 0) → (sT S x0 = 5 ∧ (((I x0 2) < x1 → Q S I R) ∧ (¬ ((I x0 2) < x1) → (sT S (R x0 0) = 21 ∧ (((0 : Int) ≤ x1 ∧ x1 < (sL S (R x0 0) : Int)) ∧ (∀ I86, I86 = up2 I (R x0 0) (Int.toNat x1) x2 → (sT S (R x0 1) = 21 ∧ (((0 : Int) ≤ x1 ∧ x1 < (sL S (R x0 1) : Int)) ∧ (∀ I93, I93 = up2 I86 (R x0 1) (Int.toNat x1) x3 → (∀ I101, I101 = up2 I93 x0 2 (w32 ((I93 x0 2) + 1)) → Q S I101 R))))))))))))) : LX5_insert_68 G x0 x1 x2 x3 S I R Q := by
  show E G MX5_insert 68 [(0, vR x0), (1, vI x1), (2, vI x2), (3, vI x3)] [] S I R (qV Q)
  refine e_iload_n 1 dX5_insert_68 rfl ?_
  refine e_if_lt (tgt := 104) dX5_insert_69 (by decide) (fun c => ?_) (fun c => ?_)
  · replace h := h.1 c
    exact e_return dX5_insert_104 rfl ⟨rfl, h⟩
  · replace h := h.2 c
    refine e_iload_n 1 dX5_insert_72 rfl ?_
    refine e_aload_n 0 dX5_insert_73 rfl ?_
    have o10 := h.1
    replace h := h.2
    refine e_getI dX5_insert_74 flX5_24 rfl o10 ?_
    refine e_icmp_gt (tgt := 104) dX5_insert_77 (by decide) (fun c => ?_) (fun c => ?_)
    · replace h := h.1 c
      exact e_return dX5_insert_104 rfl ⟨rfl, h⟩
    · replace h := h.2 c
      refine e_aload_n 0 dX5_insert_80 rfl ?_
      refine e_getR dX5_insert_81 flX5_15 rfl o10 ?_
      refine e_iload_n 1 dX5_insert_84 rfl ?_
      refine e_iload_n 2 dX5_insert_85 rfl ?_
      have o11 := h.1
      replace h := h.2
      have o12 := h.1
      replace h := h.2
      obtain ⟨I86, eI86⟩ : ∃ z : MI, z = up2 I (R x0 0) (Int.toNat x1) x2 := ⟨_, rfl⟩
      replace h := h I86 eI86
      refine e_iast dX5_insert_86 o11 o12 (eqI eI86 ?_)
      refine e_aload_n 0 dX5_insert_87 rfl ?_
      refine e_getR dX5_insert_88 flX5_21 rfl o10 ?_
      refine e_iload_n 1 dX5_insert_91 rfl ?_
      refine e_iload_n 3 dX5_insert_92 rfl ?_
      have o13 := h.1
      replace h := h.2
      have o14 := h.1
      replace h := h.2
      obtain ⟨I93, eI93⟩ : ∃ z : MI, z = up2 I86 (R x0 1) (Int.toNat x1) x3 := ⟨_, rfl⟩
      replace h := h I93 eI93
      refine e_iast dX5_insert_93 o13 o14 (eqI eI93 ?_)
      refine e_aload_n 0 dX5_insert_94 rfl ?_
      refine e_dup dX5_insert_95 rfl ?_
      refine e_getI dX5_insert_96 flX5_24 rfl o10 ?_
      refine e_iconst dX5_insert_99 (by unfold InR; decide) ?_
      refine e_iadd dX5_insert_100 ?_
      obtain ⟨I101, eI101⟩ : ∃ z : MI, z = up2 I93 x0 2 (w32 ((I93 x0 2) + 1)) := ⟨_, rfl⟩
      replace h := h I101 eI101
      refine e_putI dX5_insert_101 flX5_24 rfl (Or.inl rfl) o10 (eqI eI101 ?_)
      exact e_return dX5_insert_104 rfl ⟨rfl, h⟩

def LX5_add_3 (G : Gl) (x0 : Nat) (x1 : Int) (x2 : Int) (x3 : Nat) (x4 : Int) (S : Sh) (I : MI) (R : MR) (Q : Sh → MI → MR → Prop) : Prop := E G MX5_add 3 [(0, vR x0), (1, vI x1), (2, vI x2), (3, vR x3), (4, vI x4)] [] S I R (qV Q)
def LX5_add_29 (G : Gl) (x0 : Nat) (x1 : Int) (x2 : Int) (x3 : Nat) (x4 : Int) (S : Sh) (I : MI) (R : MR) (Q : Sh → MI → MR → Prop) : Prop := E G MX5_add 29 [(0, vR x0), (1, vI x1), (2, vI x2), (3, vR x3), (4, vI x4)] [] S I R (qV Q)
set_option maxRecDepth 100000 in
set_option maxHeartbeats 4000000 in
theorem bX5_add {G : Gl} {S : Sh} {I : MI} {R : MR} {Q : Sh → MI → MR → Prop} {x0 : Nat} {x1 : Int} {x2 : Int} {x3 : Nat} (h : LX5_add_3 G x0 x1 x2 x3 0 S I R Q) : CV G MX5_add [vR x0, vI x1, vI x2, vR x3] S I R Q := by
  show E G MX5_add 0 [(0, vR x0), (1, vI x1), (2, vI x2), (3, vR x3)] [] S I R (qV Q)
  refine e_iconst dX5_add_0 (by unfold InR; decide) ?_
  refine e_istore (ls2 := [(4, vI 0), (0, vR x0), (1, vI x1), (2, vI x2), (3, vR x3)]) dX5_add_1 (by decide) rfl ?_
  exact e_sub (ls2 := [(0, vR x0), (1, vI x1), (2, vI x2), (3, vR x3), (4, vI 0)]) [1, 2, 3, 4, 0] rfl h
set_option maxRecDepth 100000 in
set_option maxHeartbeats 4000000 in
theorem bX5_add_3 {G : Gl} {S : Sh} {I : MI} {R : MR} {Q : Sh → MI → MR → Prop} {x0 : Nat} {x1 : Int} {x2 : Int} {x3 : Nat} {x4 : Int} (h : (sT S x0 = 5 ∧ (((I x0 2) ≤ x4 → LX5_add_29 G x0 x1 x2 x3 x4 S I R Q) ∧ (¬ ((I x0 2) ≤ x4) → (sT S (R x0 0) = 21 ∧ (((0 : Int) ≤ x4 ∧ x4 < (sL S (R x0 0) : Int)) ∧ ((x1 ≤ (I (R x0 0) (Int.toNat x4)) → LX5_add_29 G x0 x1 x2 x3 x4 S I R Q) ∧ (¬ (x1 ≤ (I (R x0 0) (Int.toNat x4))) → LX5_add_3 G x0 x1 x2 x3 (w32 (x4 + 1)) S I R Q)))))))) : LX5_add_3 G x0 x1 x2 x3 x4 S I R Q := by
  show E G MX5_add 3 [(0, vR x0), (1, vI x1), (2, vI x2), (3, vR x3), (4, vI x4)] [] S I R (qV Q)
  refine e_iload 4 dX5_add_3 rfl ?_
  refine e_aload_n 0 dX5_add_5 rfl ?_
  have o1 := h.1
  replace h := h.2
  refine e_getI dX5_add_6 flX5_24 rfl o1 ?_
  refine e_icmp_ge (tgt := 29) dX5_add_9 (by decide) (fun c => ?_) (fun c => ?_)
  · replace h := h.1 c
    exact e_sub (ls2 := [(0, vR x0), (1, vI x1), (2, vI x2), (3, vR x3), (4, vI x4)]) [0, 1, 2, 3, 4] rfl h
  · replace h := h.2 c
    refine e_aload_n 0 dX5_add_12 rfl ?_
    refine e_getR dX5_add_13 flX5_15 rfl o1 ?_
    refine e_iload 4 dX5_add_16 rfl ?_
    have o2 := h.1
    replace h := h.2
    have o3 := h.1
    replace h := h.2
    refine e_iald dX5_add_18 o2 o3 ?_
    refine e_iload_n 1 dX5_add_19 rfl ?_
    refine e_icmp_ge (tgt := 29) dX5_add_20 (by decide) (fun c => ?_) (fun c => ?_)
    · replace h := h.1 c
      exact e_sub (ls2 := [(0, vR x0), (1, vI x1), (2, vI x2), (3, vR x3), (4, vI x4)]) [0, 1, 2, 3, 4] rfl h
    · replace h := h.2 c
      refine e_iinc (ls2 := [(4, vI (w32 (x4 + 1))), (0, vR x0), (1, vI x1), (2, vI x2), (3, vR x3)]) 4 dX5_add_23 rfl (by decide) rfl ?_
      refine e_goto (tgt := 3) dX5_add_26 (by decide) ?_
      exact e_sub (ls2 := [(0, vR x0), (1, vI x1), (2, vI x2), (3, vR x3), (4, vI (w32 (x4 + 1)))]) [1, 2, 3, 4, 0] rfl h
set_option maxRecDepth 100000 in
set_option maxHeartbeats 4000000 in
theorem bX5_add_29 {G : Gl} {S : Sh} {I : MI} {R : MR} {Q : Sh → MI → MR → Prop} {x0 : Nat} {x1 : Int} {x2 : Int} {x3 : Nat} {x4 : Int} (h : (sT S x0 = 5 ∧ (((I x0 2) ≤ x4 → (CV G MX5_insert [vR x0, vI x4, vI x1, vI x2] S I R (fun S77 I77 R77 => Q S77 I77 R77))) ∧ (¬ ((I x0 2) ≤ x4) → (sT S (R x0 0) = 21 ∧ (((0 : Int) ≤ x4 ∧ x4 < (sL S (R x0 0) : Int)) ∧ (((I (R x0 0) (Int.toNat x4)) ≠ x1 → (CV G MX5_insert [vR x0, vI x4, vI x1, vI x2] S I R (fun S77 I77 R77 => Q S77 I77 R77))) ∧ (¬ ((I (R x0 0) (Int.toNat x4)) ≠ x1) → (sT S (R x0 1) = 21 ∧ (((0 : Int) ≤ x4 ∧ x4 < (sL S (R x0 1) : Int)) ∧ (sT S x3 = 4 ∧ ((pX4_plusTimes S I x3 (I (R x0 1) (Int.toNat x4)) 1 x2) ∧ (∀ I68, I68 = up2 I (R x0 1) (Int.toNat x4) (vX4_plusTimes I x3 (I (R x0 1) (Int.toNat x4)) 1 x2) → Q S I68 R))))))))))))) : LX5_add_29 G x0 x1 x2 x3 x4 S I R Q := by
  show E G MX5_add 29 [(0, vR x0), (1, vI x1), (2, vI x2), (3, vR x3), (4, vI x4)] [] S I R (qV Q)
  refine e_iload 4 dX5_add_29 rfl ?_
  refine e_aload_n 0 dX5_add_31 rfl ?_
  have o4 := h.1
  replace h := h.2
  refine e_getI dX5_add_32 flX5_24 rfl o4 ?_
  refine e_icmp_ge (tgt := 72) dX5_add_35 (by decide) (fun c => ?_) (fun c => ?_)
  · replace h := h.1 c
    refine e_aload_n 0 dX5_add_72 rfl ?_
    refine e_iload 4 dX5_add_73 rfl ?_
    refine e_iload_n 1 dX5_add_75 rfl ?_
    refine e_iload_n 2 dX5_add_76 rfl ?_
    refine i_VV (μ' := MX5_insert) (ci := 4) (r := x0) (as := [vI x4, vI x1, vI x2]) (st := []) rfl dX5_add_77 mOKX5_insert ⟨mlX5_85, imX5_insert, seX5_insert⟩ (by decide) (Nat.le_of_ble_eq_true rfl) rfl (Nat.le_of_ble_eq_true rfl) ⟨by decide, rfl⟩ o4 (CV.mono h ?_)
    clear h
    intro S77 I77 R77 h
    exact e_return dX5_add_80 rfl ⟨rfl, h⟩
  · replace h := h.2 c
    refine e_aload_n 0 dX5_add_38 rfl ?_
    refine e_getR dX5_add_39 flX5_15 rfl o4 ?_
    refine e_iload 4 dX5_add_42 rfl ?_
    have o5 := h.1
    replace h := h.2
    have o6 := h.1
    replace h := h.2
    refine e_iald dX5_add_44 o5 o6 ?_
    refine e_iload_n 1 dX5_add_45 rfl ?_
    refine e_icmp_ne (tgt := 72) dX5_add_46 (by decide) (fun c => ?_) (fun c => ?_)
    · replace h := h.1 c
      refine e_aload_n 0 dX5_add_72 rfl ?_
      refine e_iload 4 dX5_add_73 rfl ?_
      refine e_iload_n 1 dX5_add_75 rfl ?_
      refine e_iload_n 2 dX5_add_76 rfl ?_
      refine i_VV (μ' := MX5_insert) (ci := 4) (r := x0) (as := [vI x4, vI x1, vI x2]) (st := []) rfl dX5_add_77 mOKX5_insert ⟨mlX5_85, imX5_insert, seX5_insert⟩ (by decide) (Nat.le_of_ble_eq_true rfl) rfl (Nat.le_of_ble_eq_true rfl) ⟨by decide, rfl⟩ o4 (CV.mono h ?_)
      clear h
      intro S77 I77 R77 h
      exact e_return dX5_add_80 rfl ⟨rfl, h⟩
    · replace h := h.2 c
      refine e_aload_n 0 dX5_add_49 rfl ?_
      refine e_getR dX5_add_50 flX5_21 rfl o4 ?_
      refine e_iload 4 dX5_add_53 rfl ?_
      refine e_aload_n 3 dX5_add_55 rfl ?_
      refine e_aload_n 0 dX5_add_56 rfl ?_
      refine e_getR dX5_add_57 flX5_21 rfl o4 ?_
      refine e_iload 4 dX5_add_60 rfl ?_
      have o7 := h.1
      replace h := h.2
      have o8 := h.1
      replace h := h.2
      refine e_iald dX5_add_62 o7 o8 ?_
      refine e_iconst dX5_add_63 (by unfold InR; decide) ?_
      refine e_iload_n 2 dX5_add_64 rfl ?_
      have o9 := h.1
      replace h := h.2
      have o10 := h.1
      replace h := h.2
      refine i_VI (μ' := MX4_plusTimes) (ci := 3) (r := x3) (as := [vI (I (R x0 1) (Int.toNat x4)), vI 1, vI x2]) (st := [vI x4, vR (R x0 1)]) rfl dX5_add_65 mOKX4_plusTimes ⟨mlX5_81, imX4_plusTimes, seX4_plusTimes⟩ (by decide) (Nat.le_of_ble_eq_true rfl) rfl (Nat.le_of_ble_eq_true rfl) ⟨by decide, rfl⟩ o9 (sX4_plusTimes o10 ?_)
      obtain ⟨I68, eI68⟩ : ∃ z : MI, z = up2 I (R x0 1) (Int.toNat x4) (vX4_plusTimes I x3 (I (R x0 1) (Int.toNat x4)) 1 x2) := ⟨_, rfl⟩
      replace h := h I68 eI68
      refine e_iast dX5_add_68 o7 o8 (eqI eI68 ?_)
      refine e_goto (tgt := 80) dX5_add_69 (by decide) ?_
      exact e_return dX5_add_80 rfl ⟨rfl, h⟩

def LX5_dropZeros_4 (G : Gl) (x0 : Nat) (x1 : Int) (x2 : Int) (S : Sh) (I : MI) (R : MR) (Q : Sh → MI → MR → Prop) : Prop := E G MX5_dropZeros 4 [(0, vR x0), (1, vI x1), (2, vI x2)] [] S I R (qV Q)
set_option maxRecDepth 100000 in
set_option maxHeartbeats 4000000 in
theorem bX5_dropZeros {G : Gl} {S : Sh} {I : MI} {R : MR} {Q : Sh → MI → MR → Prop} {x0 : Nat} (h : LX5_dropZeros_4 G x0 0 0 S I R Q) : CV G MX5_dropZeros [vR x0] S I R Q := by
  show E G MX5_dropZeros 0 [(0, vR x0)] [] S I R (qV Q)
  refine e_iconst dX5_dropZeros_0 (by unfold InR; decide) ?_
  refine e_istore_n (ls2 := [(1, vI 0), (0, vR x0)]) dX5_dropZeros_1 (by decide) rfl ?_
  refine e_iconst dX5_dropZeros_2 (by unfold InR; decide) ?_
  refine e_istore_n (ls2 := [(2, vI 0), (1, vI 0), (0, vR x0)]) dX5_dropZeros_3 (by decide) rfl ?_
  exact e_sub (ls2 := [(0, vR x0), (1, vI 0), (2, vI 0)]) [2, 1, 0] rfl h
set_option maxRecDepth 100000 in
set_option maxHeartbeats 4000000 in
theorem bX5_dropZeros_4 {G : Gl} {S : Sh} {I : MI} {R : MR} {Q : Sh → MI → MR → Prop} {x0 : Nat} {x1 : Int} {x2 : Int} (h : (sT S x0 = 5 ∧ (((I x0 2) ≤ x2 → (∀ I56, I56 = up2 I x0 2 x1 → Q S I56 R)) ∧ (¬ ((I x0 2) ≤ x2) → (sT S (R x0 1) = 21 ∧ (((0 : Int) ≤ x2 ∧ x2 < (sL S (R x0 1) : Int)) ∧ (((I (R x0 1) (Int.toNat x2)) = 0 → LX5_dropZeros_4 G x0 x1 (w32 (x2 + 1)) S I R Q) ∧ (¬ ((I (R x0 1) (Int.toNat x2)) = 0) → (sT S (R x0 0) = 21 ∧ (((0 : Int) ≤ x2 ∧ x2 < (sL S (R x0 0) : Int)) ∧ (((0 : Int) ≤ x1 ∧ x1 < (sL S (R x0 0) : Int)) ∧ (∀ I32, I32 = up2 I (R x0 0) (Int.toNat x1) (I (R x0 0) (Int.toNat x2)) → (((0 : Int) ≤ x1 ∧ x1 < (sL S (R x0 1) : Int)) ∧ (∀ I44, I44 = up2 I32 (R x0 1) (Int.toNat x1) (I32 (R x0 1) (Int.toNat x2)) → LX5_dropZeros_4 G x0 (w32 (x1 + 1)) (w32 (x2 + 1)) S I44 R Q)))))))))))))) : LX5_dropZeros_4 G x0 x1 x2 S I R Q := by
  show E G MX5_dropZeros 4 [(0, vR x0), (1, vI x1), (2, vI x2)] [] S I R (qV Q)
  refine e_iload_n 2 dX5_dropZeros_4 rfl ?_
  refine e_aload_n 0 dX5_dropZeros_5 rfl ?_
  have o1 := h.1
  replace h := h.2
  refine e_getI dX5_dropZeros_6 flX5_24 rfl o1 ?_
  refine e_icmp_ge (tgt := 54) dX5_dropZeros_9 (by decide) (fun c => ?_) (fun c => ?_)
  · replace h := h.1 c
    refine e_aload_n 0 dX5_dropZeros_54 rfl ?_
    refine e_iload_n 1 dX5_dropZeros_55 rfl ?_
    obtain ⟨I56, eI56⟩ : ∃ z : MI, z = up2 I x0 2 x1 := ⟨_, rfl⟩
    replace h := h I56 eI56
    refine e_putI dX5_dropZeros_56 flX5_24 rfl (Or.inl rfl) o1 (eqI eI56 ?_)
    exact e_return dX5_dropZeros_59 rfl ⟨rfl, h⟩
  · replace h := h.2 c
    refine e_aload_n 0 dX5_dropZeros_12 rfl ?_
    refine e_getR dX5_dropZeros_13 flX5_21 rfl o1 ?_
    refine e_iload_n 2 dX5_dropZeros_16 rfl ?_
    have o2 := h.1
    replace h := h.2
    have o3 := h.1
    replace h := h.2
    refine e_iald dX5_dropZeros_17 o2 o3 ?_
    refine e_if_eq (tgt := 48) dX5_dropZeros_18 (by decide) (fun c => ?_) (fun c => ?_)
    · replace h := h.1 c
      refine e_iinc (ls2 := [(2, vI (w32 (x2 + 1))), (0, vR x0), (1, vI x1)]) 2 dX5_dropZeros_48 rfl (by decide) rfl ?_
      refine e_goto (tgt := 4) dX5_dropZeros_51 (by decide) ?_
      exact e_sub (ls2 := [(0, vR x0), (1, vI x1), (2, vI (w32 (x2 + 1)))]) [1, 2, 0] rfl h
    · replace h := h.2 c
      refine e_aload_n 0 dX5_dropZeros_21 rfl ?_
      refine e_getR dX5_dropZeros_22 flX5_15 rfl o1 ?_
      refine e_iload_n 1 dX5_dropZeros_25 rfl ?_
      refine e_aload_n 0 dX5_dropZeros_26 rfl ?_
      refine e_getR dX5_dropZeros_27 flX5_15 rfl o1 ?_
      refine e_iload_n 2 dX5_dropZeros_30 rfl ?_
      have o4 := h.1
      replace h := h.2
      have o5 := h.1
      replace h := h.2
      refine e_iald dX5_dropZeros_31 o4 o5 ?_
      have o6 := h.1
      replace h := h.2
      obtain ⟨I32, eI32⟩ : ∃ z : MI, z = up2 I (R x0 0) (Int.toNat x1) (I (R x0 0) (Int.toNat x2)) := ⟨_, rfl⟩
      replace h := h I32 eI32
      refine e_iast dX5_dropZeros_32 o4 o6 (eqI eI32 ?_)
      refine e_aload_n 0 dX5_dropZeros_33 rfl ?_
      refine e_getR dX5_dropZeros_34 flX5_21 rfl o1 ?_
      refine e_iload_n 1 dX5_dropZeros_37 rfl ?_
      refine e_aload_n 0 dX5_dropZeros_38 rfl ?_
      refine e_getR dX5_dropZeros_39 flX5_21 rfl o1 ?_
      refine e_iload_n 2 dX5_dropZeros_42 rfl ?_
      refine e_iald dX5_dropZeros_43 o2 o3 ?_
      have o7 := h.1
      replace h := h.2
      obtain ⟨I44, eI44⟩ : ∃ z : MI, z = up2 I32 (R x0 1) (Int.toNat x1) (I32 (R x0 1) (Int.toNat x2)) := ⟨_, rfl⟩
      replace h := h I44 eI44
      refine e_iast dX5_dropZeros_44 o2 o7 (eqI eI44 ?_)
      refine e_iinc (ls2 := [(1, vI (w32 (x1 + 1))), (0, vR x0), (2, vI x2)]) 1 dX5_dropZeros_45 rfl (by decide) rfl ?_
      refine e_iinc (ls2 := [(2, vI (w32 (x2 + 1))), (1, vI (w32 (x1 + 1))), (0, vR x0)]) 2 dX5_dropZeros_48 rfl (by decide) rfl ?_
      refine e_goto (tgt := 4) dX5_dropZeros_51 (by decide) ?_
      exact e_sub (ls2 := [(0, vR x0), (1, vI (w32 (x1 + 1))), (2, vI (w32 (x2 + 1)))]) [2, 1, 0] rfl h

def LX5_reorder_12 (G : Gl) (x0 : Nat) (x1 : Nat) (x2 : Int) (x3 : Int) (S : Sh) (I : MI) (R : MR) (Q : Sh → MI → MR → Prop) : Prop := E G MX5_reorder 12 [(0, vR x0), (1, vR x1), (2, vI x2), (3, vI x3)] [] S I R (qV Q)
set_option maxRecDepth 100000 in
set_option maxHeartbeats 4000000 in
theorem bX5_reorder {G : Gl} {S : Sh} {I : MI} {R : MR} {Q : Sh → MI → MR → Prop} {x0 : Nat} {x1 : Nat} (h : (sT S x0 = 5 ∧ (∀ I7, I7 = up2 I x0 2 0 → LX5_reorder_12 G x0 x1 (I x0 2) 0 S I7 R Q))) : CV G MX5_reorder [vR x0, vR x1] S I R Q := by
  show E G MX5_reorder 0 [(0, vR x0), (1, vR x1)] [] S I R (qV Q)
  refine e_aload_n 0 dX5_reorder_0 rfl ?_
  have o1 := h.1
  replace h := h.2
  refine e_getI dX5_reorder_1 flX5_24 rfl o1 ?_
  refine e_istore_n (ls2 := [(2, vI (I x0 2)), (0, vR x0), (1, vR x1)]) dX5_reorder_4 (by decide) rfl ?_
  refine e_aload_n 1 dX5_reorder_5 rfl ?_
  refine e_iconst dX5_reorder_6 (by unfold InR; decide) ?_
  obtain ⟨I7, eI7⟩ : ∃ z : MI, z = up2 I x0 2 0 := ⟨_, rfl⟩
  replace h := h I7 eI7
  refine e_putI dX5_reorder_7 flX5_24 rfl (Or.inl rfl) o1 (eqI eI7 ?_)
  refine e_iconst dX5_reorder_10 (by unfold InR; decide) ?_
  refine e_istore_n (ls2 := [(3, vI 0), (2, vI (I x0 2)), (0, vR x0), (1, vR x1)]) dX5_reorder_11 (by decide) rfl ?_
  exact e_sub (ls2 := [(0, vR x0), (1, vR x1), (2, vI (I x0 2)), (3, vI 0)]) [2, 3, 1, 0] rfl h
set_option maxRecDepth 100000 in
set_option maxHeartbeats 4000000 in
theorem bX5_reorder_12 {G : Gl} {S : Sh} {I : MI} {R : MR} {Q : Sh → MI → MR → Prop} {x0 : Nat} {x1 : Nat} {x2 : Int} {x3 : Int} (h : ((x2 ≤ x3 → Q S I R) ∧ (¬ (x2 ≤ x3) → (sT S x0 = 5 ∧ (sT S (R x0 0) = 21 ∧ (((0 : Int) ≤ x3 ∧ x3 < (sL S (R x0 0) : Int)) ∧ (sT S x1 = 6 ∧ ((pX6_mono S R x1 (vX3_exponent (I (R x0 0) (Int.toNat x3)) 0) (vX3_exponent (I (R x0 0) (Int.toNat x3)) 1) (vX3_exponent (I (R x0 0) (Int.toNat x3)) 2)) ∧ (sT S (R x0 1) = 21 ∧ (((0 : Int) ≤ x3 ∧ x3 < (sL S (R x0 1) : Int)) ∧ (CV G MX5_add [vR x0, vI (vX6_mono I R x1 (vX3_exponent (I (R x0 0) (Int.toNat x3)) 0) (vX3_exponent (I (R x0 0) (Int.toNat x3)) 1) (vX3_exponent (I (R x0 0) (Int.toNat x3)) 2)), vI (I (R x0 1) (Int.toNat x3)), vR (R x1 1)] S I R (fun S70 I70 R70 => LX5_reorder_12 G x0 x1 x2 (w32 (x3 + 1)) S70 I70 R70 Q)))))))))))) : LX5_reorder_12 G x0 x1 x2 x3 S I R Q := by
  show E G MX5_reorder 12 [(0, vR x0), (1, vR x1), (2, vI x2), (3, vI x3)] [] S I R (qV Q)
  refine e_iload_n 3 dX5_reorder_12 rfl ?_
  refine e_iload_n 2 dX5_reorder_13 rfl ?_
  refine e_icmp_ge (tgt := 79) dX5_reorder_14 (by decide) (fun c => ?_) (fun c => ?_)
  · replace h := h.1 c
    exact e_return dX5_reorder_79 rfl ⟨rfl, h⟩
  · replace h := h.2 c
    refine e_aload_n 0 dX5_reorder_17 rfl ?_
    have o2 := h.1
    replace h := h.2
    refine e_getR dX5_reorder_18 flX5_15 rfl o2 ?_
    refine e_iload_n 3 dX5_reorder_21 rfl ?_
    have o3 := h.1
    replace h := h.2
    have o4 := h.1
    replace h := h.2
    refine e_iald dX5_reorder_22 o3 o4 ?_
    refine e_istore (ls2 := [(4, vI (I (R x0 0) (Int.toNat x3))), (0, vR x0), (1, vR x1), (2, vI x2), (3, vI x3)]) dX5_reorder_23 (by decide) rfl ?_
    refine e_iload 0 dX5_reorder_25 rfl ?_
    refine e_iconst dX5_reorder_27 (by unfold InR; decide) ?_
    refine i_SI (μ' := MX3_exponent) (as := [vI (I (R x0 0) (Int.toNat x3)), vI 0]) (st := []) rfl dX5_reorder_28 mOKX3_exponent ⟨mlX5_68, stX3_exponent⟩ (by decide) (Nat.le_of_ble_eq_true rfl) rfl (Nat.le_of_ble_eq_true rfl) (sX3_exponent ?_)
    refine e_istore (ls2 := [(5, vI (vX3_exponent (I (R x0 0) (Int.toNat x3)) 0)), (4, vI (I (R x0 0) (Int.toNat x3))), (0, vR x0), (1, vR x1), (2, vI x2), (3, vI x3)]) dX5_reorder_31 (by decide) rfl ?_
    refine e_iload 1 dX5_reorder_33 rfl ?_
    refine e_iconst dX5_reorder_35 (by unfold InR; decide) ?_
    refine i_SI (μ' := MX3_exponent) (as := [vI (I (R x0 0) (Int.toNat x3)), vI 1]) (st := []) rfl dX5_reorder_36 mOKX3_exponent ⟨mlX5_68, stX3_exponent⟩ (by decide) (Nat.le_of_ble_eq_true rfl) rfl (Nat.le_of_ble_eq_true rfl) (sX3_exponent ?_)
    refine e_istore (ls2 := [(6, vI (vX3_exponent (I (R x0 0) (Int.toNat x3)) 1)), (5, vI (vX3_exponent (I (R x0 0) (Int.toNat x3)) 0)), (4, vI (I (R x0 0) (Int.toNat x3))), (0, vR x0), (1, vR x1), (2, vI x2), (3, vI x3)]) dX5_reorder_39 (by decide) rfl ?_
    refine e_iload 2 dX5_reorder_41 rfl ?_
    refine e_iconst dX5_reorder_43 (by unfold InR; decide) ?_
    refine i_SI (μ' := MX3_exponent) (as := [vI (I (R x0 0) (Int.toNat x3)), vI 2]) (st := []) rfl dX5_reorder_44 mOKX3_exponent ⟨mlX5_68, stX3_exponent⟩ (by decide) (Nat.le_of_ble_eq_true rfl) rfl (Nat.le_of_ble_eq_true rfl) (sX3_exponent ?_)
    refine e_istore (ls2 := [(7, vI (vX3_exponent (I (R x0 0) (Int.toNat x3)) 2)), (6, vI (vX3_exponent (I (R x0 0) (Int.toNat x3)) 1)), (5, vI (vX3_exponent (I (R x0 0) (Int.toNat x3)) 0)), (4, vI (I (R x0 0) (Int.toNat x3))), (0, vR x0), (1, vR x1), (2, vI x2), (3, vI x3)]) dX5_reorder_47 (by decide) rfl ?_
    refine e_aload_n 4 dX5_reorder_49 rfl ?_
    refine e_aload_n 5 dX5_reorder_50 rfl ?_
    refine e_iload 2 dX5_reorder_51 rfl ?_
    refine e_iload 1 dX5_reorder_53 rfl ?_
    refine e_iload 0 dX5_reorder_55 rfl ?_
    have o5 := h.1
    replace h := h.2
    have o6 := h.1
    replace h := h.2
    refine i_VI (μ' := MX6_mono) (ci := 5) (r := x1) (as := [vI (vX3_exponent (I (R x0 0) (Int.toNat x3)) 0), vI (vX3_exponent (I (R x0 0) (Int.toNat x3)) 1), vI (vX3_exponent (I (R x0 0) (Int.toNat x3)) 2)]) (st := [vR x0]) rfl dX5_reorder_57 mOKX6_mono ⟨mlX5_89, imX6_mono, seX6_mono⟩ (by decide) (Nat.le_of_ble_eq_true rfl) rfl (Nat.le_of_ble_eq_true rfl) ⟨by decide, rfl⟩ o5 (sX6_mono o6 ?_)
    refine e_aload_n 4 dX5_reorder_60 rfl ?_
    refine e_getR dX5_reorder_61 flX5_21 rfl o2 ?_
    refine e_iload_n 7 dX5_reorder_64 rfl ?_
    have o7 := h.1
    replace h := h.2
    have o8 := h.1
    replace h := h.2
    refine e_iald dX5_reorder_65 o7 o8 ?_
    refine e_aload_n 5 dX5_reorder_66 rfl ?_
    refine e_getR dX5_reorder_67 flX5_64 rfl o5 ?_
    refine i_VV (μ' := MX5_add) (ci := 4) (r := x0) (as := [vI (vX6_mono I R x1 (vX3_exponent (I (R x0 0) (Int.toNat x3)) 0) (vX3_exponent (I (R x0 0) (Int.toNat x3)) 1) (vX3_exponent (I (R x0 0) (Int.toNat x3)) 2)), vI (I (R x0 1) (Int.toNat x3)), vR (R x1 1)]) (st := []) rfl dX5_reorder_70 mOKX5_add ⟨mlX5_92, imX5_add, seX5_add⟩ (by decide) (Nat.le_of_ble_eq_true rfl) rfl (Nat.le_of_ble_eq_true rfl) ⟨by decide, rfl⟩ o2 (CV.mono h ?_)
    clear h
    intro S70 I70 R70 h
    refine e_iinc (ls2 := [(3, vI (w32 (x3 + 1))), (7, vI (vX3_exponent (I (R x0 0) (Int.toNat x3)) 2)), (6, vI (vX3_exponent (I (R x0 0) (Int.toNat x3)) 1)), (5, vI (vX3_exponent (I (R x0 0) (Int.toNat x3)) 0)), (4, vI (I (R x0 0) (Int.toNat x3))), (0, vR x0), (1, vR x1), (2, vI x2)]) 7 dX5_reorder_73 rfl (by decide) rfl ?_
    refine e_goto (tgt := 12) dX5_reorder_76 (by decide) ?_
    exact e_sub (ls2 := [(0, vR x0), (1, vR x1), (2, vI x2), (3, vI (w32 (x3 + 1)))]) [5, 6, 7, 0] rfl h
