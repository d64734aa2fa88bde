def vX4_negative (I : MI) (x0 : Nat) (x1 : Int) : Int := (if x1 ≠ 0 then (w32 ((I x0 0) - x1)) else 0)
def pX4_negative (S : Sh) (x0 : Nat) (x1 : Int) : Prop := ((x1 ≠ 0 → (sT S x0 = 4 ∧ True)) ∧ (¬ (x1 ≠ 0) → True))
set_option maxRecDepth 100000 in
set_option maxHeartbeats 4000000 in
theorem sX4_negative {G : Gl} {S : Sh} {I : MI} {R : MR} {Q : Sh → MI → MR → Int → Prop} {x0 : Nat} {x1 : Int} (hp : pX4_negative S x0 x1) (hq : Q S I R (vX4_negative I x0 x1)) : CI G MX4_negative [vR x0, vI x1] S I R Q := by
  show E G MX4_negative 0 [(0, vR x0), (1, vI x1)] [] S I R (qI Q)
  unfold vX4_negative at hq
  unfold pX4_negative at hp
  refine e_iload_n 1 dX4_negative_0 rfl ?_
  refine e_if_ne (tgt := 8) dX4_negative_1 (by decide) (fun c => ?_) (fun c => ?_)
  · rw [if_pos c] at hq
    replace hp := hp.1 c
    refine e_aload_n 0 dX4_negative_8 rfl ?_
    have o1 := hp.1
    replace hp := hp.2
    refine e_getI dX4_negative_9 flX4_13 rfl o1 ?_
    refine e_iload_n 1 dX4_negative_12 rfl ?_
    refine e_isub dX4_negative_13 ?_
    exact e_ireturn dX4_negative_14 rfl ⟨_, rfl, hq⟩
  · rw [if_neg c] at hq
    replace hp := hp.2 c
    refine e_iconst dX4_negative_4 (by unfold InR; decide) ?_
    refine e_goto (tgt := 14) dX4_negative_5 (by decide) ?_
    exact e_ireturn dX4_negative_14 rfl ⟨_, rfl, hq⟩

def vX4_plusTimes (I : MI) (x0 : Nat) (x1 : Int) (x2 : Int) (x3 : Int) : Int := (irem (w32 (x1 + (w32 (x2 * x3)))) (I x0 0))
def pX4_plusTimes (S : Sh) (I : MI) (x0 : Nat) (x1 : Int) (x2 : Int) (x3 : Int) : Prop := (sT S x0 = 4 ∧ ((I x0 0) ≠ 0 ∧ True))
set_option maxRecDepth 100000 in
set_option maxHeartbeats 4000000 in
theorem sX4_plusTimes {G : Gl} {S : Sh} {I : MI} {R : MR} {Q : Sh → MI → MR → Int → Prop} {x0 : Nat} {x1 : Int} {x2 : Int} {x3 : Int} (hp : pX4_plusTimes S I x0 x1 x2 x3) (hq : Q S I R (vX4_plusTimes I x0 x1 x2 x3)) : CI G MX4_plusTimes [vR x0, vI x1, vI x2, vI x3] S I R Q := by
  show E G MX4_plusTimes 0 [(0, vR x0), (1, vI x1), (2, vI x2), (3, vI x3)] [] S I R (qI Q)
  unfold vX4_plusTimes at hq
  unfold pX4_plusTimes at hp
  refine e_iload_n 1 dX4_plusTimes_0 rfl ?_
  refine e_iload_n 2 dX4_plusTimes_1 rfl ?_
  refine e_iload_n 3 dX4_plusTimes_2 rfl ?_
  refine e_imul dX4_plusTimes_3 ?_
  refine e_iadd dX4_plusTimes_4 ?_
  refine e_aload_n 0 dX4_plusTimes_5 rfl ?_
  have o1 := hp.1
  replace hp := hp.2
  refine e_getI dX4_plusTimes_6 flX4_13 rfl o1 ?_
  have o2 := hp.1
  replace hp := hp.2
  refine e_irem dX4_plusTimes_9 o2 ?_
  exact e_ireturn dX4_plusTimes_10 rfl ⟨_, rfl, hq⟩

def vX4_times (I : MI) (x0 : Nat) (x1 : Int) (x2 : Int) : Int := (irem (w32 (x1 * x2)) (I x0 0))
def pX4_times (S : Sh) (I : MI) (x0 : Nat) (x1 : Int) (x2 : Int) : Prop := (sT S x0 = 4 ∧ ((I x0 0) ≠ 0 ∧ True))
set_option maxRecDepth 100000 in
set_option maxHeartbeats 4000000 in
theorem sX4_times {G : Gl} {S : Sh} {I : MI} {R : MR} {Q : Sh → MI → MR → Int → Prop} {x0 : Nat} {x1 : Int} {x2 : Int} (hp : pX4_times S I x0 x1 x2) (hq : Q S I R (vX4_times I x0 x1 x2)) : CI G MX4_times [vR x0, vI x1, vI x2] S I R Q := by
  show E G MX4_times 0 [(0, vR x0), (1, vI x1), (2, vI x2)] [] S I R (qI Q)
  unfold vX4_times at hq
  unfold pX4_times at hp
  refine e_iload_n 1 dX4_times_0 rfl ?_
  refine e_iload_n 2 dX4_times_1 rfl ?_
  refine e_imul dX4_times_2 ?_
  refine e_aload_n 0 dX4_times_3 rfl ?_
  have o1 := hp.1
  replace hp := hp.2
  refine e_getI dX4_times_4 flX4_13 rfl o1 ?_
  have o2 := hp.1
  replace hp := hp.2
  refine e_irem dX4_times_7 o2 ?_
  exact e_ireturn dX4_times_8 rfl ⟨_, rfl, hq⟩

def LX4_inverse_12 (G : Gl) (x0 : Nat) (x2 : Int) (x3 : Int) (x4 : Int) (S : Sh) (I : MI) (R : MR) (Q : Sh → MI → MR → Int → Prop) : Prop := E G MX4_inverse 12 [(0, vR x0), (2, vI x2), (3, vI x3), (4, vI x4)] [] S I R (qI Q)
def LX4_inverse_32 (G : Gl) (x0 : Nat) (x2 : Int) (x3 : Int) (x4 : Int) (S : Sh) (I : MI) (R : MR) (Q : Sh → MI → MR → Int → Prop) : Prop := E G MX4_inverse 32 [(0, vR x0), (2, vI x2), (3, vI x3), (4, vI x4)] [] S I R (qI Q)
set_option maxRecDepth 100000 in
set_option maxHeartbeats 4000000 in
theorem bX4_inverse {G : Gl} {S : Sh} {I : MI} {R : MR} {Q : Sh → MI → MR → Int → Prop} {x0 : Nat} {x1 : Int} (h : (sT S x0 = 4 ∧ LX4_inverse_12 G x0 1 x1 (w32 ((I x0 0) - 2)) S I R Q)) : CI G MX4_inverse [vR x0, vI x1] S I R Q := by
  show E G MX4_inverse 0 [(0, vR x0), (1, vI x1)] [] S I R (qI Q)
  refine e_iconst dX4_inverse_0 (by unfold InR; decide) ?_
  refine e_istore_n (ls2 := [(2, vI 1), (0, vR x0), (1, vI x1)]) dX4_inverse_1 (by decide) rfl ?_
  refine e_iload_n 2 dX4_inverse_2 rfl ?_
  refine e_istore_n (ls2 := [(3, vI x1), (2, vI 1), (0, vR x0), (1, vI x1)]) dX4_inverse_3 (by decide) rfl ?_
  refine e_aload_n 2 dX4_inverse_4 rfl ?_
  have o1 := h.1
  replace h := h.2
  refine e_getI dX4_inverse_5 flX4_13 rfl o1 ?_
  refine e_iconst dX4_inverse_8 (by unfold InR; decide) ?_
  refine e_isub dX4_inverse_9 ?_
  refine e_istore (ls2 := [(4, vI (w32 ((I x0 0) - 2))), (3, vI x1), (2, vI 1), (0, vR x0), (1, vI x1)]) dX4_inverse_10 (by decide) rfl ?_
  exact e_sub (ls2 := [(0, vR x0), (2, vI 1), (3, vI x1), (4, vI (w32 ((I x0 0) - 2)))]) [3, 2, 1, 0] rfl h
set_option maxRecDepth 100000 in
set_option maxHeartbeats 4000000 in
theorem bX4_inverse_12 {G : Gl} {S : Sh} {I : MI} {R : MR} {Q : Sh → MI → MR → Int → Prop} {x0 : Nat} {x2 : Int} {x3 : Int} {x4 : Int} (h : ((x4 ≤ 0 → Q S I R x2) ∧ (¬ (x4 ≤ 0) → (((iand x4 1) ≠ 1 → LX4_inverse_32 G x0 x2 x3 x4 S I R Q) ∧ (¬ ((iand x4 1) ≠ 1) → (sT S x0 = 4 ∧ ((pX4_times S I x0 x2 x3) ∧ LX4_inverse_32 G x0 (vX4_times I x0 x2 x3) x3 x4 S I R Q))))))) : LX4_inverse_12 G x0 x2 x3 x4 S I R Q := by
  show E G MX4_inverse 12 [(0, vR x0), (2, vI x2), (3, vI x3), (4, vI x4)] [] S I R (qI Q)
  refine e_iload 3 dX4_inverse_12 rfl ?_
  refine e_if_le (tgt := 48) dX4_inverse_14 (by decide) (fun c => ?_) (fun c => ?_)
  · replace h := h.1 c
    refine e_iload_n 1 dX4_inverse_48 rfl ?_
    exact e_ireturn dX4_inverse_49 rfl ⟨_, rfl, h⟩
  · replace h := h.2 c
    refine e_iload 3 dX4_inverse_17 rfl ?_
    refine e_iconst dX4_inverse_19 (by unfold InR; decide) ?_
    refine e_iand dX4_inverse_20 ?_
    refine e_iconst dX4_inverse_21 (by unfold InR; decide) ?_
    refine e_icmp_ne (tgt := 32) dX4_inverse_22 (by decide) (fun c => ?_) (fun c => ?_)
    · replace h := h.1 c
      exact e_sub (ls2 := [(0, vR x0), (2, vI x2), (3, vI x3), (4, vI x4)]) [0, 1, 2, 3] rfl h
    · replace h := h.2 c
      refine e_aload_n 0 dX4_inverse_25 rfl ?_
      refine e_iload_n 1 dX4_inverse_26 rfl ?_
      refine e_iload_n 2 dX4_inverse_27 rfl ?_
      have o2 := h.1
      replace h := h.2
      have o3 := h.1
      replace h := h.2
      refine i_VI (μ' := MX4_times) (ci := 3) (r := x0) (as := [vI x2, vI x3]) (st := []) rfl dX4_inverse_28 mOKX4_times ⟨mlX4_19, imX4_times, seX4_times⟩ (by decide) (Nat.le_of_ble_eq_true rfl) rfl (Nat.le_of_ble_eq_true rfl) ⟨by decide, rfl⟩ o2 (sX4_times o3 ?_)
      refine e_istore_n (ls2 := [(2, vI (vX4_times I x0 x2 x3)), (0, vR x0), (3, vI x3), (4, vI x4)]) dX4_inverse_31 (by decide) rfl ?_
      exact e_sub (ls2 := [(0, vR x0), (2, vI (vX4_times I x0 x2 x3)), (3, vI x3), (4, vI x4)]) [1, 0, 2, 3] rfl h
set_option maxRecDepth 100000 in
set_option maxHeartbeats 4000000 in
theorem bX4_inverse_32 {G : Gl} {S : Sh} {I : MI} {R : MR} {Q : Sh → MI → MR → Int → Prop} {x0 : Nat} {x2 : Int} {x3 : Int} {x4 : Int} (h : (sT S x0 = 4 ∧ ((pX4_times S I x0 x3 x3) ∧ LX4_inverse_12 G x0 x2 (vX4_times I x0 x3 x3) (ishr x4 1) S I R Q))) : LX4_inverse_32 G x0 x2 x3 x4 S I R Q := by
  show E G MX4_inverse 32 [(0, vR x0), (2, vI x2), (3, vI x3), (4, vI x4)] [] S I R (qI Q)
  refine e_aload_n 0 dX4_inverse_32 rfl ?_
  refine e_iload_n 2 dX4_inverse_33 rfl ?_
  refine e_iload_n 2 dX4_inverse_34 rfl ?_
  have o4 := h.1
  replace h := h.2
  have o5 := h.1
  replace h := h.2
  refine i_VI (μ' := MX4_times) (ci := 3) (r := x0) (as := [vI x3, vI x3]) (st := []) rfl dX4_inverse_35 mOKX4_times ⟨mlX4_19, imX4_times, seX4_times⟩ (by decide) (Nat.le_of_ble_eq_true rfl) rfl (Nat.le_of_ble_eq_true rfl) ⟨by decide, rfl⟩ o4 (sX4_times o5 ?_)
  refine e_istore_n (ls2 := [(3, vI (vX4_times I x0 x3 x3)), (0, vR x0), (2, vI x2), (4, vI x4)]) dX4_inverse_38 (by decide) rfl ?_
  refine e_iload 3 dX4_inverse_39 rfl ?_
  refine e_iconst dX4_inverse_41 (by unfold InR; decide) ?_
  refine e_ishr dX4_inverse_42 ?_
  refine e_istore (ls2 := [(4, vI (ishr x4 1)), (3, vI (vX4_times I x0 x3 x3)), (0, vR x0), (2, vI x2)]) dX4_inverse_43 (by decide) rfl ?_
  refine e_goto (tgt := 12) dX4_inverse_45 (by decide) ?_
  exact e_sub (ls2 := [(0, vR x0), (2, vI x2), (3, vI (vX4_times I x0 x3 x3)), (4, vI (ishr x4 1))]) [2, 3, 1, 0] rfl h

set_option maxRecDepth 100000 in
set_option maxHeartbeats 4000000 in
theorem bX4_init {G : Gl} {S : Sh} {I : MI} {R : MR} {Q : Sh → MI → MR → Prop} {x0 : Nat} {x1 : Int} (h : (sT S x0 ≠ 0 ∧ (sT S x0 = 4 ∧ (∀ I10, I10 = up2 I x0 0 (max x1 2) → Q S I10 R)))) : CV G MX4_init [vR x0, vI x1] S I R Q := by
  show E G MX4_init 0 [(0, vR x0), (1, vI x1)] [] S I R (qV Q)
  refine e_aload_n 0 dX4_init_0 rfl ?_
  have o1 := h.1
  replace h := h.2
  refine e_objI dX4_init_1 ⟨moX4_1, oc⟩ (by decide) (Nat.le_of_ble_eq_true rfl) o1 ?_
  refine e_aload_n 0 dX4_init_4 rfl ?_
  refine e_iload_n 1 dX4_init_5 rfl ?_
  refine e_iconst dX4_init_6 (by unfold InR; decide) ?_
  refine e_mmax dX4_init_7 mmX4_7 mxmax (by decide) (Nat.le_of_ble_eq_true rfl) ?_
  have o2 := h.1
  replace h := h.2
  obtain ⟨I10, eI10⟩ : ∃ z : MI, z = up2 I x0 0 (max x1 2) := ⟨_, rfl⟩
  replace h := h I10 eI10
  refine e_putI dX4_init_10 flX4_13 rfl (Or.inr ⟨rfl, rfl, rfl⟩) o2 (eqI eI10 ?_)
  exact e_return dX4_init_13 rfl ⟨rfl, h⟩

def vX4_reduced (I : MI) (x0 : Nat) (x1 : Int) : Int := (irem x1 (I x0 0))
def pX4_reduced (S : Sh) (I : MI) (x0 : Nat) (x1 : Int) : Prop := (sT S x0 = 4 ∧ ((I x0 0) ≠ 0 ∧ True))
set_option maxRecDepth 100000 in
set_option maxHeartbeats 4000000 in
theorem sX4_reduced {G : Gl} {S : Sh} {I : MI} {R : MR} {Q : Sh → MI → MR → Int → Prop} {x0 : Nat} {x1 : Int} (hp : pX4_reduced S I x0 x1) (hq : Q S I R (vX4_reduced I x0 x1)) : CI G MX4_reduced [vR x0, vI x1] S I R Q := by
  show E G MX4_reduced 0 [(0, vR x0), (1, vI x1)] [] S I R (qI Q)
  unfold vX4_reduced at hq
  unfold pX4_reduced at hp
  refine e_iload_n 1 dX4_reduced_0 rfl ?_
  refine e_aload_n 0 dX4_reduced_1 rfl ?_
  have o1 := hp.1
  replace hp := hp.2
  refine e_getI dX4_reduced_2 flX4_13 rfl o1 ?_
  have o2 := hp.1
  replace hp := hp.2
  refine e_irem dX4_reduced_5 o2 ?_
  exact e_ireturn dX4_reduced_6 rfl ⟨_, rfl, hq⟩
