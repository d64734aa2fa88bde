set_option maxRecDepth 100000 in
set_option maxHeartbeats 4000000 in
theorem bX8_init {G : Gl} {S : Sh} {I : MI} {R : MR} {Q : Sh → MI → MR → Prop} {x0 : Nat} (h : (sT S x0 ≠ 0 ∧ (∀ S8 I8 R8, S8 = shNew S 21 1080 1080 → I8 = mNew I (sN S) 0 → R8 = mNew R (sN S) 0 → (sT S8 x0 = 8 ∧ (∀ R10, R10 = up2 R8 x0 0 (sN S) → Q S8 I8 R10))))) : CV G MX8_init [vR x0] S I R Q := by
  show E G MX8_init 0 [(0, vR x0)] [] S I R (qV Q)
  refine e_aload_n 0 dX8_init_0 rfl ?_
  have o1 := h.1
  replace h := h.2
  refine e_objI dX8_init_1 ⟨moX8_3, oc⟩ (by decide) (Nat.le_of_ble_eq_true rfl) o1 ?_
  refine e_aload_n 0 dX8_init_4 rfl ?_
  refine e_sipush (x := 1080) dX8_init_5 ⟨by decide +kernel, by unfold InR; decide⟩ ?_
  obtain ⟨S8, eS8⟩ : ∃ z : Sh, z = shNew S 21 1080 1080 := ⟨_, rfl⟩
  obtain ⟨I8, eI8⟩ : ∃ z : MI, z = mNew I (sN S) 0 := ⟨_, rfl⟩
  obtain ⟨R8, eR8⟩ : ∃ z : MR, z = mNew R (sN S) 0 := ⟨_, rfl⟩
  replace h := h S8 I8 R8 eS8 eI8 eR8
  refine e_newa (t := 21) (n := 1080) dX8_init_8 (Or.inl ⟨rfl, rfl⟩) acint rfl (by decide) (eqS eS8 (eqI eI8 (eqR eR8 ?_)))
  have o2 := h.1
  replace h := h.2
  obtain ⟨R10, eR10⟩ : ∃ z : MR, z = up2 R8 x0 0 (sN S) := ⟨_, rfl⟩
  replace h := h R10 eR10
  refine e_putR dX8_init_10 flX8_9 rfl (Or.inr ⟨rfl, rfl, rfl⟩) o2 (eqR eR10 ?_)
  exact e_return dX8_init_13 rfl ⟨rfl, h⟩

set_option maxRecDepth 100000 in
set_option maxHeartbeats 4000000 in
theorem bX8_put {G : Gl} {S : Sh} {I : MI} {R : MR} {Q : Sh → MI → MR → Prop} {x0 : Nat} {x1 : Int} (h : (sT S x0 = 8 ∧ (21 ≤ sT S (R x0 0) ∧ (((sL S (R x0 0) : Int) ≤ (I x0 1) → Q S I R) ∧ (¬ ((sL S (R x0 0) : Int) ≤ (I x0 1)) → (sT S (R x0 0) = 21 ∧ (((0 : Int) ≤ (I x0 1) ∧ (I x0 1) < (sL S (R x0 0) : Int)) ∧ (∀ I21, I21 = up2 I (R x0 0) (Int.toNat (I x0 1)) x1 → (∀ I29, I29 = up2 I21 x0 1 (w32 ((I21 x0 1) + 1)) → Q S I29 R))))))))) : CV G MX8_put [vR x0, vI x1] S I R Q := by
  show E G MX8_put 0 [(0, vR x0), (1, vI x1)] [] S I R (qV Q)
  refine e_aload_n 0 dX8_put_0 rfl ?_
  have o1 := h.1
  replace h := h.2
  refine e_getI dX8_put_1 flX8_15 rfl o1 ?_
  refine e_aload_n 0 dX8_put_4 rfl ?_
  refine e_getR dX8_put_5 flX8_9 rfl o1 ?_
  have o2 := h.1
  replace h := h.2
  refine e_alen dX8_put_8 o2 ?_
  refine e_icmp_ge (tgt := 32) dX8_put_9 (by decide) (fun c => ?_) (fun c => ?_)
  · replace h := h.1 c
    exact e_return dX8_put_32 rfl ⟨rfl, h⟩
  · replace h := h.2 c
    refine e_aload_n 0 dX8_put_12 rfl ?_
    refine e_getR dX8_put_13 flX8_9 rfl o1 ?_
    refine e_aload_n 0 dX8_put_16 rfl ?_
    refine e_getI dX8_put_17 flX8_15 rfl o1 ?_
    refine e_iload_n 1 dX8_put_20 rfl ?_
    have o3 := h.1
    replace h := h.2
    have o4 := h.1
    replace h := h.2
    obtain ⟨I21, eI21⟩ : ∃ z : MI, z = up2 I (R x0 0) (Int.toNat (I x0 1)) x1 := ⟨_, rfl⟩
    replace h := h I21 eI21
    refine e_iast dX8_put_21 o3 o4 (eqI eI21 ?_)
    refine e_aload_n 0 dX8_put_22 rfl ?_
    refine e_dup dX8_put_23 rfl ?_
    refine e_getI dX8_put_24 flX8_15 rfl o1 ?_
    refine e_iconst dX8_put_27 (by unfold InR; decide) ?_
    refine e_iadd dX8_put_28 ?_
    obtain ⟨I29, eI29⟩ : ∃ z : MI, z = up2 I21 x0 1 (w32 ((I21 x0 1) + 1)) := ⟨_, rfl⟩
    replace h := h I29 eI29
    refine e_putI dX8_put_29 flX8_15 rfl (Or.inl rfl) o1 (eqI eI29 ?_)
    exact e_return dX8_put_32 rfl ⟨rfl, h⟩

def LX8_putNumber_4 (G : Gl) (x0 : Nat) (x1 : Int) (x2 : Int) (S : Sh) (I : MI) (R : MR) (Q : Sh → MI → MR → Prop) : Prop := E G MX8_putNumber 4 [(0, vR x0), (1, vI x1), (2, vI x2)] [] S I R (qV Q)
set_option maxRecDepth 100000 in
set_option maxHeartbeats 4000000 in
theorem bX8_putNumber {G : Gl} {S : Sh} {I : MI} {R : MR} {Q : Sh → MI → MR → Prop} {x0 : Nat} {x1 : Int} (h : LX8_putNumber_4 G x0 x1 10000 S I R Q) : CV G MX8_putNumber [vR x0, vI x1] S I R Q := by
  show E G MX8_putNumber 0 [(0, vR x0), (1, vI x1)] [] S I R (qV Q)
  refine e_sipush (x := 10000) dX8_putNumber_0 ⟨by decide +kernel, by unfold InR; decide⟩ ?_
  refine e_istore_n (ls2 := [(2, vI 10000), (0, vR x0), (1, vI x1)]) dX8_putNumber_3 (by decide) rfl ?_
  exact e_sub (ls2 := [(0, vR x0), (1, vI x1), (2, vI 10000)]) [1, 2, 0] rfl h
set_option maxRecDepth 100000 in
set_option maxHeartbeats 4000000 in
theorem bX8_putNumber_4 {G : Gl} {S : Sh} {I : MI} {R : MR} {Q : Sh → MI → MR → Prop} {x0 : Nat} {x1 : Int} {x2 : Int} (h : ((x2 ≤ 0 → Q S I R) ∧ (¬ (x2 ≤ 0) → ((x1 < x2 → LX8_putNumber_4 G x0 x1 (idiv x2 10) S I R Q) ∧ (¬ (x1 < x2) → (x2 ≠ 0 ∧ (sT S x0 = 8 ∧ (CV G MX8_put [vR x0, vI (w32 (48 + (irem (idiv x1 x2) 10)))] S I R (fun S23 I23 R23 => LX8_putNumber_4 G x0 x1 (idiv x2 10) S23 I23 R23 Q))))))))) : LX8_putNumber_4 G x0 x1 x2 S I R Q := by
  show E G MX8_putNumber 4 [(0, vR x0), (1, vI x1), (2, vI x2)] [] S I R (qV Q)
  refine e_iload_n 2 dX8_putNumber_4 rfl ?_
  refine e_if_le (tgt := 34) dX8_putNumber_5 (by decide) (fun c => ?_) (fun c => ?_)
  · replace h := h.1 c
    exact e_return dX8_putNumber_34 rfl ⟨rfl, h⟩
  · replace h := h.2 c
    refine e_iload_n 1 dX8_putNumber_8 rfl ?_
    refine e_iload_n 2 dX8_putNumber_9 rfl ?_
    refine e_icmp_lt (tgt := 26) dX8_putNumber_10 (by decide) (fun c => ?_) (fun c => ?_)
    · replace h := h.1 c
      refine e_iload_n 2 dX8_putNumber_26 rfl ?_
      refine e_bipush (x := 10) dX8_putNumber_27 ⟨by decide +kernel, by unfold InR; decide⟩ ?_
      refine e_idiv dX8_putNumber_29 (by decide) ?_
      refine e_istore_n (ls2 := [(2, vI (idiv x2 10)), (0, vR x0), (1, vI x1)]) dX8_putNumber_30 (by decide) rfl ?_
      refine e_goto (tgt := 4) dX8_putNumber_31 (by decide) ?_
      exact e_sub (ls2 := [(0, vR x0), (1, vI x1), (2, vI (idiv x2 10))]) [1, 2, 0] rfl h
    · replace h := h.2 c
      refine e_aload_n 0 dX8_putNumber_13 rfl ?_
      refine e_bipush (x := 48) dX8_putNumber_14 ⟨by decide +kernel, by unfold InR; decide⟩ ?_
      refine e_iload_n 1 dX8_putNumber_16 rfl ?_
      refine e_iload_n 2 dX8_putNumber_17 rfl ?_
      have o1 := h.1
      replace h := h.2
      refine e_idiv dX8_putNumber_18 o1 ?_
      refine e_bipush (x := 10) dX8_putNumber_19 ⟨by decide +kernel, by unfold InR; decide⟩ ?_
      refine e_irem dX8_putNumber_21 (by decide) ?_
      refine e_iadd dX8_putNumber_22 ?_
      have o2 := h.1
      replace h := h.2
      refine i_VV (μ' := MX8_put) (ci := 7) (r := x0) (as := [vI (w32 (48 + (irem (idiv x1 x2) 10)))]) (st := []) rfl dX8_putNumber_23 mOKX8_put ⟨mlX8_22, imX8_put, seX8_put⟩ (by decide) (Nat.le_of_ble_eq_true rfl) rfl (Nat.le_of_ble_eq_true rfl) ⟨by decide, rfl⟩ o2 (CV.mono h ?_)
      clear h
      intro S23 I23 R23 h
      refine e_iload_n 2 dX8_putNumber_26 rfl ?_
      refine e_bipush (x := 10) dX8_putNumber_27 ⟨by decide +kernel, by unfold InR; decide⟩ ?_
      refine e_idiv dX8_putNumber_29 (by decide) ?_
      refine e_istore_n (ls2 := [(2, vI (idiv x2 10)), (0, vR x0), (1, vI x1)]) dX8_putNumber_30 (by decide) rfl ?_
      refine e_goto (tgt := 4) dX8_putNumber_31 (by decide) ?_
      exact e_sub (ls2 := [(0, vR x0), (1, vI x1), (2, vI (idiv x2 10))]) [1, 2, 0] rfl h

def LX8_putPower_12 (G : Gl) (x0 : Nat) (x2 : Int) (S : Sh) (I : MI) (R : MR) (Q : Sh → MI → MR → Prop) : Prop := E G MX8_putPower 12 [(0, vR x0), (2, vI x2)] [] S I R (qV Q)
set_option maxRecDepth 100000 in
set_option maxHeartbeats 4000000 in
theorem bX8_putPower {G : Gl} {S : Sh} {I : MI} {R : MR} {Q : Sh → MI → MR → Prop} {x0 : Nat} {x1 : Int} {x2 : Int} (h : ((x2 ≤ 0 → LX8_putPower_12 G x0 x2 S I R Q) ∧ (¬ (x2 ≤ 0) → (sT S x0 = 8 ∧ (CV G MX8_put [vR x0, vI (w32 (120 + x1))] S I R (fun S9 I9 R9 => LX8_putPower_12 G x0 x2 S9 I9 R9 Q)))))) : CV G MX8_putPower [vR x0, vI x1, vI x2] S I R Q := by
  show E G MX8_putPower 0 [(0, vR x0), (1, vI x1), (2, vI x2)] [] S I R (qV Q)
  refine e_iload_n 2 dX8_putPower_0 rfl ?_
  refine e_if_le (tgt := 12) dX8_putPower_1 (by decide) (fun c => ?_) (fun c => ?_)
  · replace h := h.1 c
    exact e_sub (ls2 := [(0, vR x0), (2, vI x2)]) [0, 2] rfl h
  · replace h := h.2 c
    refine e_aload_n 0 dX8_putPower_4 rfl ?_
    refine e_bipush (x := 120) dX8_putPower_5 ⟨by decide +kernel, by unfold InR; decide⟩ ?_
    refine e_iload_n 1 dX8_putPower_7 rfl ?_
    refine e_iadd dX8_putPower_8 ?_
    have o1 := h.1
    replace h := h.2
    refine i_VV (μ' := MX8_put) (ci := 7) (r := x0) (as := [vI (w32 (120 + x1))]) (st := []) rfl dX8_putPower_9 mOKX8_put ⟨mlX8_22, imX8_put, seX8_put⟩ (by decide) (Nat.le_of_ble_eq_true rfl) rfl (Nat.le_of_ble_eq_true rfl) ⟨by decide, rfl⟩ o1 (CV.mono h ?_)
    clear h
    intro S9 I9 R9 h
    exact e_sub (ls2 := [(0, vR x0), (2, vI x2)]) [0, 2] rfl h
set_option maxRecDepth 100000 in
set_option maxHeartbeats 4000000 in
theorem bX8_putPower_12 {G : Gl} {S : Sh} {I : MI} {R : MR} {Q : Sh → MI → MR → Prop} {x0 : Nat} {x2 : Int} (h : ((x2 ≤ 1 → Q S I R) ∧ (¬ (x2 ≤ 1) → (sT S x0 = 8 ∧ (CV G MX8_put [vR x0, vI 94] S I R (fun S20 I20 R20 => (sT S20 x0 = 8 ∧ (CV G MX8_putNumber [vR x0, vI x2] S20 I20 R20 (fun S25 I25 R25 => Q S25 I25 R25))))))))) : LX8_putPower_12 G x0 x2 S I R Q := by
  show E G MX8_putPower 12 [(0, vR x0), (2, vI x2)] [] S I R (qV Q)
  refine e_iload_n 1 dX8_putPower_12 rfl ?_
  refine e_iconst dX8_putPower_13 (by unfold InR; decide) ?_
  refine e_icmp_le (tgt := 28) dX8_putPower_14 (by decide) (fun c => ?_) (fun c => ?_)
  · replace h := h.1 c
    exact e_return dX8_putPower_28 rfl ⟨rfl, h⟩
  · replace h := h.2 c
    refine e_aload_n 0 dX8_putPower_17 rfl ?_
    refine e_bipush (x := 94) dX8_putPower_18 ⟨by decide +kernel, by unfold InR; decide⟩ ?_
    have o2 := h.1
    replace h := h.2
    refine i_VV (μ' := MX8_put) (ci := 7) (r := x0) (as := [vI 94]) (st := []) rfl dX8_putPower_20 mOKX8_put ⟨mlX8_22, imX8_put, seX8_put⟩ (by decide) (Nat.le_of_ble_eq_true rfl) rfl (Nat.le_of_ble_eq_true rfl) ⟨by decide, rfl⟩ o2 (CV.mono h ?_)
    clear h
    intro S20 I20 R20 h
    refine e_aload_n 0 dX8_putPower_23 rfl ?_
    refine e_iload_n 1 dX8_putPower_24 rfl ?_
    have o3 := h.1
    replace h := h.2
    refine i_VV (μ' := MX8_putNumber) (ci := 7) (r := x0) (as := [vI x2]) (st := []) rfl dX8_putPower_25 mOKX8_putNumber ⟨mlX8_35, imX8_putNumber, seX8_putNumber⟩ (by decide) (Nat.le_of_ble_eq_true rfl) rfl (Nat.le_of_ble_eq_true rfl) ⟨by decide, rfl⟩ o3 (CV.mono h ?_)
    clear h
    intro S25 I25 R25 h
    exact e_return dX8_putPower_28 rfl ⟨rfl, h⟩

def LX8_write_20 (G : Gl) (x0 : Nat) (x1 : Nat) (x2 : Int) (S : Sh) (I : MI) (R : MR) (Q : Sh → MI → MR → Prop) : Prop := E G MX8_write 20 [(0, vR x0), (1, vR x1), (2, vI x2)] [] S I R (qV Q)
def LX8_write_38 (G : Gl) (x0 : Nat) (x1 : Nat) (x2 : Int) (S : Sh) (I : MI) (R : MR) (Q : Sh → MI → MR → Prop) : Prop := E G MX8_write 38 [(0, vR x0), (1, vR x1), (2, vI x2)] [] S I R (qV Q)
def LX8_write_74 (G : Gl) (x0 : Nat) (x1 : Nat) (x2 : Int) (x3 : Int) (x4 : Int) (S : Sh) (I : MI) (R : MR) (Q : Sh → MI → MR → Prop) : Prop := E G MX8_write 74 [(0, vR x0), (1, vR x1), (2, vI x2), (3, vI x3), (4, vI x4)] [] S I R (qV Q)
set_option maxRecDepth 100000 in
set_option maxHeartbeats 4000000 in
theorem bX8_write {G : Gl} {S : Sh} {I : MI} {R : MR} {Q : Sh → MI → MR → Prop} {x0 : Nat} {x1 : Nat} (h : (sT S x0 = 8 ∧ (∀ I2, I2 = up2 I x0 1 0 → (sT S x1 = 5 ∧ (((I2 x1 2) ≠ 0 → LX8_write_20 G x0 x1 0 S I2 R Q) ∧ (¬ ((I2 x1 2) ≠ 0) → (CV G MX8_put [vR x0, vI 48] S I2 R (fun S15 I15 R15 => LX8_write_20 G x0 x1 0 S15 I15 R15 Q)))))))) : CV G MX8_write [vR x0, vR x1] S I R Q := by
  show E G MX8_write 0 [(0, vR x0), (1, vR x1)] [] S I R (qV Q)
  refine e_aload_n 0 dX8_write_0 rfl ?_
  refine e_iconst dX8_write_1 (by unfold InR; decide) ?_
  have o1 := h.1
  replace h := h.2
  obtain ⟨I2, eI2⟩ : ∃ z : MI, z = up2 I x0 1 0 := ⟨_, rfl⟩
  replace h := h I2 eI2
  refine e_putI dX8_write_2 flX8_15 rfl (Or.inl rfl) o1 (eqI eI2 ?_)
  refine e_aload_n 1 dX8_write_5 rfl ?_
  have o2 := h.1
  replace h := h.2
  refine e_getI dX8_write_6 flX8_19 rfl o2 ?_
  refine e_if_ne (tgt := 18) dX8_write_9 (by decide) (fun c => ?_) (fun c => ?_)
  · replace h := h.1 c
    refine e_iconst dX8_write_18 (by unfold InR; decide) ?_
    refine e_istore_n (ls2 := [(2, vI 0), (0, vR x0), (1, vR x1)]) dX8_write_19 (by decide) rfl ?_
    exact e_sub (ls2 := [(0, vR x0), (1, vR x1), (2, vI 0)]) [1, 2, 0] rfl h
  · replace h := h.2 c
    refine e_aload_n 0 dX8_write_12 rfl ?_
    refine e_bipush (x := 48) dX8_write_13 ⟨by decide +kernel, by unfold InR; decide⟩ ?_
    refine i_VV (μ' := MX8_put) (ci := 7) (r := x0) (as := [vI 48]) (st := []) rfl dX8_write_15 mOKX8_put ⟨mlX8_22, imX8_put, seX8_put⟩ (by decide) (Nat.le_of_ble_eq_true rfl) rfl (Nat.le_of_ble_eq_true rfl) ⟨by decide, rfl⟩ o1 (CV.mono h ?_)
    clear h
    intro S15 I15 R15 h
    refine e_iconst dX8_write_18 (by unfold InR; decide) ?_
    refine e_istore_n (ls2 := [(2, vI 0), (0, vR x0), (1, vR x1)]) dX8_write_19 (by decide) rfl ?_
    exact e_sub (ls2 := [(0, vR x0), (1, vR x1), (2, vI 0)]) [1, 2, 0] rfl h
set_option maxRecDepth 100000 in
set_option maxHeartbeats 4000000 in
theorem bX8_write_20 {G : Gl} {S : Sh} {I : MI} {R : MR} {Q : Sh → MI → MR → Prop} {x0 : Nat} {x1 : Nat} {x2 : Int} (h : (sT S x1 = 5 ∧ (((I x1 2) ≤ x2 → Q S I R) ∧ (¬ ((I x1 2) ≤ x2) → ((x2 ≤ 0 → LX8_write_38 G x0 x1 x2 S I R Q) ∧ (¬ (x2 ≤ 0) → (sT S x0 = 8 ∧ (CV G MX8_put [vR x0, vI 43] S I R (fun S35 I35 R35 => LX8_write_38 G x0 x1 x2 S35 I35 R35 Q))))))))) : LX8_write_20 G x0 x1 x2 S I R Q := by
  show E G MX8_write 20 [(0, vR x0), (1, vR x1), (2, vI x2)] [] S I R (qV Q)
  refine e_iload_n 2 dX8_write_20 rfl ?_
  refine e_aload_n 1 dX8_write_21 rfl ?_
  have o3 := h.1
  replace h := h.2
  refine e_getI dX8_write_22 flX8_19 rfl o3 ?_
  refine e_icmp_ge (tgt := 104) dX8_write_25 (by decide) (fun c => ?_) (fun c => ?_)
  · replace h := h.1 c
    exact e_return dX8_write_104 rfl ⟨rfl, h⟩
  · replace h := h.2 c
    refine e_iload_n 2 dX8_write_28 rfl ?_
    refine e_if_le (tgt := 38) dX8_write_29 (by decide) (fun c => ?_) (fun c => ?_)
    · replace h := h.1 c
      exact e_sub (ls2 := [(0, vR x0), (1, vR x1), (2, vI x2)]) [0, 1, 2] rfl h
    · replace h := h.2 c
      refine e_aload_n 0 dX8_write_32 rfl ?_
      refine e_bipush (x := 43) dX8_write_33 ⟨by decide +kernel, by unfold InR; decide⟩ ?_
      have o4 := h.1
      replace h := h.2
      refine i_VV (μ' := MX8_put) (ci := 7) (r := x0) (as := [vI 43]) (st := []) rfl dX8_write_35 mOKX8_put ⟨mlX8_22, imX8_put, seX8_put⟩ (by decide) (Nat.le_of_ble_eq_true rfl) rfl (Nat.le_of_ble_eq_true rfl) ⟨by decide, rfl⟩ o4 (CV.mono h ?_)
      clear h
      intro S35 I35 R35 h
      exact e_sub (ls2 := [(0, vR x0), (1, vR x1), (2, vI x2)]) [0, 1, 2] rfl h
set_option maxRecDepth 100000 in
set_option maxHeartbeats 4000000 in
theorem bX8_write_38 {G : Gl} {S : Sh} {I : MI} {R : MR} {Q : Sh → MI → MR → Prop} {x0 : Nat} {x1 : Nat} {x2 : Int} (h : (sT S x1 = 5 ∧ (sT S (R x1 0) = 21 ∧ (((0 : Int) ≤ x2 ∧ x2 < (sL S (R x1 0) : Int)) ∧ (sT S (R x1 1) = 21 ∧ (((0 : Int) ≤ x2 ∧ x2 < (sL S (R x1 1) : Int)) ∧ (((I (R x1 1) (Int.toNat x2)) ≠ 1 → (sT S x0 = 8 ∧ (CV G MX8_putNumber [vR x0, vI (I (R x1 1) (Int.toNat x2))] S I R (fun S68 I68 R68 => LX8_write_74 G x0 x1 x2 (I (R x1 0) (Int.toNat x2)) 0 S68 I68 R68 Q)))) ∧ (¬ ((I (R x1 1) (Int.toNat x2)) ≠ 1) → (((I (R x1 0) (Int.toNat x2)) ≠ 262143 → LX8_write_74 G x0 x1 x2 (I (R x1 0) (Int.toNat x2)) 0 S I R Q) ∧ (¬ ((I (R x1 0) (Int.toNat x2)) ≠ 262143) → (sT S x0 = 8 ∧ (CV G MX8_putNumber [vR x0, vI (I (R x1 1) (Int.toNat x2))] S I R (fun S68 I68 R68 => LX8_write_74 G x0 x1 x2 (I (R x1 0) (Int.toNat x2)) 0 S68 I68 R68 Q))))))))))))) : LX8_write_38 G x0 x1 x2 S I R Q := by
  show E G MX8_write 38 [(0, vR x0), (1, vR x1), (2, vI x2)] [] S I R (qV Q)
  refine e_aload_n 1 dX8_write_38 rfl ?_
  have o5 := h.1
  replace h := h.2
  refine e_getR dX8_write_39 flX8_26 rfl o5 ?_
  refine e_iload_n 2 dX8_write_42 rfl ?_
  have o6 := h.1
  replace h := h.2
  have o7 := h.1
  replace h := h.2
  refine e_iald dX8_write_43 o6 o7 ?_
  refine e_istore_n (ls2 := [(3, vI (I (R x1 0) (Int.toNat x2))), (0, vR x0), (1, vR x1), (2, vI x2)]) dX8_write_44 (by decide) rfl ?_
  refine e_aload_n 2 dX8_write_45 rfl ?_
  refine e_getR dX8_write_46 flX8_29 rfl o5 ?_
  refine e_iload_n 3 dX8_write_49 rfl ?_
  have o8 := h.1
  replace h := h.2
  have o9 := h.1
  replace h := h.2
  refine e_iald dX8_write_50 o8 o9 ?_
  refine e_iconst dX8_write_51 (by unfold InR; decide) ?_
  refine e_icmp_ne (tgt := 61) dX8_write_52 (by decide) (fun c => ?_) (fun c => ?_)
  · replace h := h.1 c
    refine e_aload_n 1 dX8_write_61 rfl ?_
    refine e_aload_n 2 dX8_write_62 rfl ?_
    refine e_getR dX8_write_63 flX8_29 rfl o5 ?_
    refine e_iload_n 3 dX8_write_66 rfl ?_
    refine e_iald dX8_write_67 o8 o9 ?_
    have o10 := h.1
    replace h := h.2
    refine i_VV (μ' := MX8_putNumber) (ci := 7) (r := x0) (as := [vI (I (R x1 1) (Int.toNat x2))]) (st := []) rfl dX8_write_68 mOKX8_putNumber ⟨mlX8_35, imX8_putNumber, seX8_putNumber⟩ (by decide) (Nat.le_of_ble_eq_true rfl) rfl (Nat.le_of_ble_eq_true rfl) ⟨by decide, rfl⟩ o10 (CV.mono h ?_)
    clear h
    intro S68 I68 R68 h
    refine e_iconst dX8_write_71 (by unfold InR; decide) ?_
    refine e_istore (ls2 := [(4, vI 0), (3, vI (I (R x1 0) (Int.toNat x2))), (0, vR x0), (1, vR x1), (2, vI x2)]) dX8_write_72 (by decide) rfl ?_
    exact e_sub (ls2 := [(0, vR x0), (1, vR x1), (2, vI x2), (3, vI (I (R x1 0) (Int.toNat x2))), (4, vI 0)]) [2, 3, 4, 1, 0] rfl h
  · replace h := h.2 c
    refine e_iload_n 0 dX8_write_55 rfl ?_
    refine e_ldc (x := 262143) dX8_write_56 cnX8_34 (by unfold InR; decide) ?_
    refine e_icmp_ne (tgt := 71) dX8_write_58 (by decide) (fun c => ?_) (fun c => ?_)
    · replace h := h.1 c
      refine e_iconst dX8_write_71 (by unfold InR; decide) ?_
      refine e_istore (ls2 := [(4, vI 0), (3, vI (I (R x1 0) (Int.toNat x2))), (0, vR x0), (1, vR x1), (2, vI x2)]) dX8_write_72 (by decide) rfl ?_
      exact e_sub (ls2 := [(0, vR x0), (1, vR x1), (2, vI x2), (3, vI (I (R x1 0) (Int.toNat x2))), (4, vI 0)]) [2, 3, 4, 1, 0] rfl h
    · replace h := h.2 c
      refine e_aload_n 1 dX8_write_61 rfl ?_
      refine e_aload_n 2 dX8_write_62 rfl ?_
      refine e_getR dX8_write_63 flX8_29 rfl o5 ?_
      refine e_iload_n 3 dX8_write_66 rfl ?_
      refine e_iald dX8_write_67 o8 o9 ?_
      have o11 := h.1
      replace h := h.2
      refine i_VV (μ' := MX8_putNumber) (ci := 7) (r := x0) (as := [vI (I (R x1 1) (Int.toNat x2))]) (st := []) rfl dX8_write_68 mOKX8_putNumber ⟨mlX8_35, imX8_putNumber, seX8_putNumber⟩ (by decide) (Nat.le_of_ble_eq_true rfl) rfl (Nat.le_of_ble_eq_true rfl) ⟨by decide, rfl⟩ o11 (CV.mono h ?_)
      clear h
      intro S68 I68 R68 h
      refine e_iconst dX8_write_71 (by unfold InR; decide) ?_
      refine e_istore (ls2 := [(4, vI 0), (3, vI (I (R x1 0) (Int.toNat x2))), (0, vR x0), (1, vR x1), (2, vI x2)]) dX8_write_72 (by decide) rfl ?_
      exact e_sub (ls2 := [(0, vR x0), (1, vR x1), (2, vI x2), (3, vI (I (R x1 0) (Int.toNat x2))), (4, vI 0)]) [2, 3, 4, 1, 0] rfl h
set_option maxRecDepth 100000 in
set_option maxHeartbeats 4000000 in
theorem bX8_write_74 {G : Gl} {S : Sh} {I : MI} {R : MR} {Q : Sh → MI → MR → Prop} {x0 : Nat} {x1 : Nat} {x2 : Int} {x3 : Int} {x4 : Int} (h : ((3 ≤ x4 → LX8_write_20 G x0 x1 (w32 (x2 + 1)) S I R Q) ∧ (¬ (3 ≤ x4) → (sT S x0 = 8 ∧ (CV G MX8_putPower [vR x0, vI x4, vI (vX3_exponent x3 x4)] S I R (fun S89 I89 R89 => LX8_write_74 G x0 x1 x2 x3 (w32 (x4 + 1)) S89 I89 R89 Q)))))) : LX8_write_74 G x0 x1 x2 x3 x4 S I R Q := by
  show E G MX8_write 74 [(0, vR x0), (1, vR x1), (2, vI x2), (3, vI x3), (4, vI x4)] [] S I R (qV Q)
  refine e_iload 4 dX8_write_74 rfl ?_
  refine e_iconst dX8_write_76 (by unfold InR; decide) ?_
  refine e_icmp_ge (tgt := 98) dX8_write_77 (by decide) (fun c => ?_) (fun c => ?_)
  · replace h := h.1 c
    refine e_iinc (ls2 := [(2, vI (w32 (x2 + 1))), (0, vR x0), (1, vR x1), (3, vI x3), (4, vI x4)]) 2 dX8_write_98 rfl (by decide) rfl ?_
    refine e_goto (tgt := 20) dX8_write_101 (by decide) ?_
    exact e_sub (ls2 := [(0, vR x0), (1, vR x1), (2, vI (w32 (x2 + 1)))]) [1, 2, 0] rfl h
  · replace h := h.2 c
    refine e_aload_n 0 dX8_write_80 rfl ?_
    refine e_iload 4 dX8_write_81 rfl ?_
    refine e_iload_n 3 dX8_write_83 rfl ?_
    refine e_iload 4 dX8_write_84 rfl ?_
    refine i_SI (μ' := MX3_exponent) (as := [vI x3, vI x4]) (st := [vI x4, vR x0]) rfl dX8_write_86 mOKX3_exponent ⟨mlX8_38, stX3_exponent⟩ (by decide) (Nat.le_of_ble_eq_true rfl) rfl (Nat.le_of_ble_eq_true rfl) (sX3_exponent ?_)
    have o12 := h.1
    replace h := h.2
    refine i_VV (μ' := MX8_putPower) (ci := 7) (r := x0) (as := [vI x4, vI (vX3_exponent x3 x4)]) (st := []) rfl dX8_write_89 mOKX8_putPower ⟨mlX8_42, imX8_putPower, seX8_putPower⟩ (by decide) (Nat.le_of_ble_eq_true rfl) rfl (Nat.le_of_ble_eq_true rfl) ⟨by decide, rfl⟩ o12 (CV.mono h ?_)
    clear h
    intro S89 I89 R89 h
    refine e_iinc (ls2 := [(4, vI (w32 (x4 + 1))), (0, vR x0), (1, vR x1), (2, vI x2), (3, vI x3)]) 4 dX8_write_92 rfl (by decide) rfl ?_
    refine e_goto (tgt := 74) dX8_write_95 (by decide) ?_
    exact e_sub (ls2 := [(0, vR x0), (1, vR x1), (2, vI x2), (3, vI x3), (4, vI (w32 (x4 + 1)))]) [1, 2, 3, 4, 0] rfl h
