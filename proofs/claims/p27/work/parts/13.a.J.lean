def LJ7_fill_53178_5 (G : Gl) (x0 : Nat) (x1 : Int) (x2 : Int) (x3 : Int) (S : Sh) (I : MI) (R : MR) (Q : Sh → MI → MR → Prop) : Prop := E G MJ7_fill_53178 5 [(0, vR x0), (1, vI x1), (2, vI x2), (3, vI x3)] [] S I R (qV Q)
set_option maxRecDepth 100000 in
set_option maxHeartbeats 4000000 in
theorem bJ7_fill_53178 {G : Gl} {S : Sh} {I : MI} {R : MR} {Q : Sh → MI → MR → Prop} {x0 : Nat} {x1 : Int} (h : (21 ≤ sT S x0 ∧ LJ7_fill_53178_5 G x0 x1 0 (sL S x0 : Int) S I R Q)) : CV G MJ7_fill_53178 [vR x0, vI x1] S I R Q := by
  show E G MJ7_fill_53178 0 [(0, vR x0), (1, vI x1)] [] S I R (qV Q)
  refine e_iconst dJ7_fill_53178_0 (by unfold InR; decide) ?_
  refine e_istore_n (ls2 := [(2, vI 0), (0, vR x0), (1, vI x1)]) dJ7_fill_53178_1 (by decide) rfl ?_
  refine e_aload_n 1 dJ7_fill_53178_2 rfl ?_
  have o1 := h.1
  replace h := h.2
  refine e_alen dJ7_fill_53178_3 o1 ?_
  refine e_istore_n (ls2 := [(3, vI (sL S x0 : Int)), (2, vI 0), (0, vR x0), (1, vI x1)]) dJ7_fill_53178_4 (by decide) rfl ?_
  exact e_sub (ls2 := [(0, vR x0), (1, vI x1), (2, vI 0), (3, vI (sL S x0 : Int))]) [2, 3, 1, 0] rfl h
set_option maxRecDepth 100000 in
set_option maxHeartbeats 4000000 in
theorem bJ7_fill_53178_5 {G : Gl} {S : Sh} {I : MI} {R : MR} {Q : Sh → MI → MR → Prop} {x0 : Nat} {x1 : Int} {x2 : Int} {x3 : Int} (h : ((x3 ≤ x2 → Q S I R) ∧ (¬ (x3 ≤ x2) → (sT S x0 = 21 ∧ (((0 : Int) ≤ x2 ∧ x2 < (sL S x0 : Int)) ∧ (∀ I13, I13 = up2 I x0 (Int.toNat x2) x1 → LJ7_fill_53178_5 G x0 x1 (w32 (x2 + 1)) x3 S I13 R Q)))))) : LJ7_fill_53178_5 G x0 x1 x2 x3 S I R Q := by
  show E G MJ7_fill_53178 5 [(0, vR x0), (1, vI x1), (2, vI x2), (3, vI x3)] [] S I R (qV Q)
  refine e_iload_n 2 dJ7_fill_53178_5 rfl ?_
  refine e_iload_n 3 dJ7_fill_53178_6 rfl ?_
  refine e_icmp_ge (tgt := 20) dJ7_fill_53178_7 (by decide) (fun c => ?_) (fun c => ?_)
  · replace h := h.1 c
    exact e_return dJ7_fill_53178_20 rfl ⟨rfl, h⟩
  · replace h := h.2 c
    refine e_aload_n 0 dJ7_fill_53178_10 rfl ?_
    refine e_iload_n 2 dJ7_fill_53178_11 rfl ?_
    refine e_iload_n 1 dJ7_fill_53178_12 rfl ?_
    have o2 := h.1
    replace h := h.2
    have o3 := h.1
    replace h := h.2
    obtain ⟨I13, eI13⟩ : ∃ z : MI, z = up2 I x0 (Int.toNat x2) x1 := ⟨_, rfl⟩
    replace h := h I13 eI13
    refine e_iast dJ7_fill_53178_13 o2 o3 (eqI eI13 ?_)
    refine e_iinc (ls2 := [(2, vI (w32 (x2 + 1))), (0, vR x0), (1, vI x1), (3, vI x3)]) 2 dJ7_fill_53178_14 rfl (by decide) rfl ?_
    refine e_goto (tgt := 5) dJ7_fill_53178_17 (by decide) ?_
    exact e_sub (ls2 := [(0, vR x0), (1, vI x1), (2, vI (w32 (x2 + 1))), (3, vI x3)]) [1, 2, 0, 3] rfl h

set_option maxRecDepth 100000 in
set_option maxHeartbeats 4000000 in
theorem bJ5_init_d00df {G : Gl} {S : Sh} {I : MI} {R : MR} {Q : Sh → MI → MR → Prop} {x0 : Nat} {x1 : Int} (h : (sT S x0 ≠ 0 ∧ (∃ n12 : Nat, x1 = (n12 : Int) ∧ n12 ≤ 100000000 ∧ (∀ S12 I12 R12, S12 = shNew S 22 n12 n12 → I12 = mNew I (sN S) 0 → R12 = mNew R (sN S) 0 → (sT S12 x0 = 11 ∧ (∀ R14, R14 = up2 R12 x0 0 (sN S) → (∀ I19, I19 = up2 I12 x0 1 0 → Q S12 I19 R14))))))) : CV G MJ5_init_d00df [vR x0, vI x1] S I R Q := by
  show E G MJ5_init_d00df 0 [(0, vR x0), (1, vI x1)] [] S I R (qV Q)
  refine e_aload_n 0 dJ5_init_d00df_0 rfl ?_
  have o1 := h.1
  replace h := h.2
  refine e_objI dJ5_init_d00df_1 ⟨moJ5_3, oc⟩ (by decide) (Nat.le_of_ble_eq_true rfl) o1 ?_
  refine e_getsC dJ5_init_d00df_4 fsJ5_18 ?_
  refine e_if_eq (tgt := 25) dJ5_init_d00df_7 (by decide) (fun c => absurd c (by decide)) (fun _ => ?_)
  refine e_aload_n 0 dJ5_init_d00df_10 rfl ?_
  refine e_iload_n 1 dJ5_init_d00df_11 rfl ?_
  obtain ⟨n12, h0, h1, h⟩ := h
  obtain ⟨S12, eS12⟩ : ∃ z : Sh, z = shNew S 22 n12 n12 := ⟨_, rfl⟩
  obtain ⟨I12, eI12⟩ : ∃ z : MI, z = mNew I (sN S) 0 := ⟨_, rfl⟩
  obtain ⟨R12, eR12⟩ : ∃ z : MR, z = mNew R (sN S) 0 := ⟨_, rfl⟩
  replace h := h S12 I12 R12 eS12 eI12 eR12
  refine e_newa (t := 22) (n := n12) dJ5_init_d00df_12 (Or.inr ⟨rfl, rfl⟩) acbyte h0 h1 (eqS eS12 (eqI eI12 (eqR eR12 ?_)))
  have o2 := h.1
  replace h := h.2
  obtain ⟨R14, eR14⟩ : ∃ z : MR, z = up2 R12 x0 0 (sN S) := ⟨_, rfl⟩
  replace h := h R14 eR14
  refine e_putR dJ5_init_d00df_14 flJ5_15 rfl (Or.inl rfl) o2 (eqR eR14 ?_)
  refine e_aload_n 0 dJ5_init_d00df_17 rfl ?_
  refine e_iconst dJ5_init_d00df_18 (by unfold InR; decide) ?_
  obtain ⟨I19, eI19⟩ : ∃ z : MI, z = up2 I12 x0 1 0 := ⟨_, rfl⟩
  replace h := h I19 eI19
  refine e_putB dJ5_init_d00df_19 flJ5_22 rfl (Or.inl rfl) o2 (by decide) (eqI eI19 ?_)
  refine e_goto (tgt := 38) dJ5_init_d00df_22 (by decide) ?_
  exact e_return dJ5_init_d00df_38 rfl ⟨rfl, h⟩

def vJ5_length_8abf5 (I : MI) (x0 : Nat) : Int := (I x0 3)
def pJ5_length_8abf5 (S : Sh) (x0 : Nat) : Prop := (sT S x0 = 11 ∧ True)
set_option maxRecDepth 100000 in
set_option maxHeartbeats 4000000 in
theorem sJ5_length_8abf5 {G : Gl} {S : Sh} {I : MI} {R : MR} {Q : Sh → MI → MR → Int → Prop} {x0 : Nat} (hp : pJ5_length_8abf5 S x0) (hq : Q S I R (vJ5_length_8abf5 I x0)) : CI G MJ5_length_8abf5 [vR x0] S I R Q := by
  show E G MJ5_length_8abf5 0 [(0, vR x0)] [] S I R (qI Q)
  unfold vJ5_length_8abf5 at hq
  unfold pJ5_length_8abf5 at hp
  refine e_aload_n 0 dJ5_length_8abf5_0 rfl ?_
  have o1 := hp.1
  replace hp := hp.2
  refine e_getI dJ5_length_8abf5_1 flJ5_79 rfl o1 ?_
  exact e_ireturn dJ5_length_8abf5_4 rfl ⟨_, rfl, hq⟩

def vJ8_newLength_cabcc  (x0 : Int) (x1 : Int) (x2 : Int) : Int := (if (w32 (x0 + (max x1 x2))) ≤ 0 then 0 else (if 2147483639 < (w32 (x0 + (max x1 x2))) then 0 else (w32 (x0 + (max x1 x2)))))
def pJ8_newLength_cabcc  (x0 : Int) (x1 : Int) (x2 : Int) : Prop := (((w32 (x0 + (max x1 x2))) ≤ 0 → False) ∧ (¬ ((w32 (x0 + (max x1 x2))) ≤ 0) → ((2147483639 < (w32 (x0 + (max x1 x2))) → False) ∧ (¬ (2147483639 < (w32 (x0 + (max x1 x2)))) → True))))
set_option maxRecDepth 100000 in
set_option maxHeartbeats 4000000 in
theorem sJ8_newLength_cabcc {G : Gl} {S : Sh} {I : MI} {R : MR} {Q : Sh → MI → MR → Int → Prop} {x0 : Int} {x1 : Int} {x2 : Int} (hp : pJ8_newLength_cabcc x0 x1 x2) (hq : Q S I R (vJ8_newLength_cabcc x0 x1 x2)) : CI G MJ8_newLength_cabcc [vI x0, vI x1, vI x2] S I R Q := by
  show E G MJ8_newLength_cabcc 0 [(0, vI x0), (1, vI x1), (2, vI x2)] [] S I R (qI Q)
  unfold vJ8_newLength_cabcc at hq
  unfold pJ8_newLength_cabcc at hp
  refine e_iload_n 0 dJ8_newLength_cabcc_0 rfl ?_
  refine e_iload_n 1 dJ8_newLength_cabcc_1 rfl ?_
  refine e_iload_n 2 dJ8_newLength_cabcc_2 rfl ?_
  refine e_mmax dJ8_newLength_cabcc_3 mmJ8_194 mxmax (by decide) (Nat.le_of_ble_eq_true rfl) ?_
  refine e_iadd dJ8_newLength_cabcc_6 ?_
  refine e_istore_n (ls2 := [(3, vI (w32 (x0 + (max x1 x2)))), (0, vI x0), (1, vI x1), (2, vI x2)]) dJ8_newLength_cabcc_7 (by decide) rfl ?_
  refine e_iconst dJ8_newLength_cabcc_8 (by unfold InR; decide) ?_
  refine e_iload_n 0 dJ8_newLength_cabcc_9 rfl ?_
  refine e_icmp_ge (tgt := 21) dJ8_newLength_cabcc_10 (by decide) (fun c => ?_) (fun c => ?_)
  · rw [if_pos c] at hq
    replace hp := hp.1 c
    refine e_iload_n 1 dJ8_newLength_cabcc_21 rfl ?_
    refine e_iload_n 2 dJ8_newLength_cabcc_22 rfl ?_
    exact hp.elim
  · rw [if_neg c] at hq
    replace hp := hp.2 c
    refine e_iload_n 0 dJ8_newLength_cabcc_13 rfl ?_
    refine e_ldc (x := 2147483639) dJ8_newLength_cabcc_14 cnJ8_200 (by unfold InR; decide) ?_
    refine e_icmp_gt (tgt := 21) dJ8_newLength_cabcc_16 (by decide) (fun c => ?_) (fun c => ?_)
    · rw [if_pos c] at hq
      replace hp := hp.1 c
      refine e_iload_n 1 dJ8_newLength_cabcc_21 rfl ?_
      refine e_iload_n 2 dJ8_newLength_cabcc_22 rfl ?_
      exact hp.elim
    · rw [if_neg c] at hq
      replace hp := hp.2 c
      refine e_iload_n 0 dJ8_newLength_cabcc_19 rfl ?_
      exact e_ireturn dJ8_newLength_cabcc_20 rfl ⟨_, rfl, hq⟩

def vJ5_newCapacity_0f7a4 (S : Sh) (I : MI) (R : MR) (x0 : Nat) (x1 : Int) : Int := (if (vJ8_newLength_cabcc (sL S (R x0 0) : Int) (w32 ((ishl x1 (I x0 1)) - (sL S (R x0 0) : Int))) (w32 ((sL S (R x0 0) : Int) + (ishl 2 (I x0 1))))) ≠ 2147483647 then (ishr (vJ8_newLength_cabcc (sL S (R x0 0) : Int) (w32 ((ishl x1 (I x0 1)) - (sL S (R x0 0) : Int))) (w32 ((sL S (R x0 0) : Int) + (ishl 2 (I x0 1))))) (I x0 1)) else 0)
def pJ5_newCapacity_0f7a4 (S : Sh) (I : MI) (R : MR) (x0 : Nat) (x1 : Int) : Prop := (sT S x0 = 11 ∧ (21 ≤ sT S (R x0 0) ∧ ((pJ8_newLength_cabcc (sL S (R x0 0) : Int) (w32 ((ishl x1 (I x0 1)) - (sL S (R x0 0) : Int))) (w32 ((sL S (R x0 0) : Int) + (ishl 2 (I x0 1))))) ∧ (((vJ8_newLength_cabcc (sL S (R x0 0) : Int) (w32 ((ishl x1 (I x0 1)) - (sL S (R x0 0) : Int))) (w32 ((sL S (R x0 0) : Int) + (ishl 2 (I x0 1))))) ≠ 2147483647 → True) ∧ (¬ ((vJ8_newLength_cabcc (sL S (R x0 0) : Int) (w32 ((ishl x1 (I x0 1)) - (sL S (R x0 0) : Int))) (w32 ((sL S (R x0 0) : Int) + (ishl 2 (I x0 1))))) ≠ 2147483647) → False)))))
set_option maxRecDepth 100000 in
set_option maxHeartbeats 4000000 in
theorem sJ5_newCapacity_0f7a4 {G : Gl} {S : Sh} {I : MI} {R : MR} {Q : Sh → MI → MR → Int → Prop} {x0 : Nat} {x1 : Int} (hp : pJ5_newCapacity_0f7a4 S I R x0 x1) (hq : Q S I R (vJ5_newCapacity_0f7a4 S I R x0 x1)) : CI G MJ5_newCapacity_0f7a4 [vR x0, vI x1] S I R Q := by
  show E G MJ5_newCapacity_0f7a4 0 [(0, vR x0), (1, vI x1)] [] S I R (qI Q)
  unfold vJ5_newCapacity_0f7a4 at hq
  unfold pJ5_newCapacity_0f7a4 at hp
  refine e_aload_n 0 dJ5_newCapacity_0f7a4_0 rfl ?_
  have o1 := hp.1
  replace hp := hp.2
  refine e_getR dJ5_newCapacity_0f7a4_1 flJ5_15 rfl o1 ?_
  have o2 := hp.1
  replace hp := hp.2
  refine e_alen dJ5_newCapacity_0f7a4_4 o2 ?_
  refine e_istore_n (ls2 := [(2, vI (sL S (R x0 0) : Int)), (0, vR x0), (1, vI x1)]) dJ5_newCapacity_0f7a4_5 (by decide) rfl ?_
  refine e_iload_n 2 dJ5_newCapacity_0f7a4_6 rfl ?_
  refine e_aload_n 1 dJ5_newCapacity_0f7a4_7 rfl ?_
  refine e_getI dJ5_newCapacity_0f7a4_8 flJ5_22 rfl o1 ?_
  refine e_ishl dJ5_newCapacity_0f7a4_11 ?_
  refine e_istore_n (ls2 := [(3, vI (ishl x1 (I x0 1))), (2, vI (sL S (R x0 0) : Int)), (0, vR x0), (1, vI x1)]) dJ5_newCapacity_0f7a4_12 (by decide) rfl ?_
  refine e_iload_n 0 dJ5_newCapacity_0f7a4_13 rfl ?_
  refine e_iload_n 1 dJ5_newCapacity_0f7a4_14 rfl ?_
  refine e_isub dJ5_newCapacity_0f7a4_15 ?_
  refine e_istore (ls2 := [(4, vI (w32 ((ishl x1 (I x0 1)) - (sL S (R x0 0) : Int)))), (3, vI (ishl x1 (I x0 1))), (2, vI (sL S (R x0 0) : Int)), (0, vR x0), (1, vI x1)]) dJ5_newCapacity_0f7a4_16 (by decide) rfl ?_
  refine e_iload_n 2 dJ5_newCapacity_0f7a4_18 rfl ?_
  refine e_iload 0 dJ5_newCapacity_0f7a4_19 rfl ?_
  refine e_iload_n 2 dJ5_newCapacity_0f7a4_21 rfl ?_
  refine e_iconst dJ5_newCapacity_0f7a4_22 (by unfold InR; decide) ?_
  refine e_aload_n 3 dJ5_newCapacity_0f7a4_23 rfl ?_
  refine e_getI dJ5_newCapacity_0f7a4_24 flJ5_22 rfl o1 ?_
  refine e_ishl dJ5_newCapacity_0f7a4_27 ?_
  refine e_iadd dJ5_newCapacity_0f7a4_28 ?_
  have o3 := hp.1
  replace hp := hp.2
  refine i_SI (μ' := MJ8_newLength_cabcc) (as := [vI (sL S (R x0 0) : Int), vI (w32 ((ishl x1 (I x0 1)) - (sL S (R x0 0) : Int))), vI (w32 ((sL S (R x0 0) : Int) + (ishl 2 (I x0 1))))]) (st := []) rfl dJ5_newCapacity_0f7a4_29 mOKJ8_newLength_cabcc ⟨mlJ5_114, stJ8_newLength_cabcc⟩ (by decide) (Nat.le_of_ble_eq_true rfl) rfl (Nat.le_of_ble_eq_true rfl) (sJ8_newLength_cabcc o3 ?_)
  refine e_istore (ls2 := [(5, vI (vJ8_newLength_cabcc (sL S (R x0 0) : Int) (w32 ((ishl x1 (I x0 1)) - (sL S (R x0 0) : Int))) (w32 ((sL S (R x0 0) : Int) + (ishl 2 (I x0 1)))))), (4, vI (w32 ((ishl x1 (I x0 1)) - (sL S (R x0 0) : Int)))), (3, vI (ishl x1 (I x0 1))), (2, vI (sL S (R x0 0) : Int)), (0, vR x0), (1, vI x1)]) dJ5_newCapacity_0f7a4_32 (by decide) rfl ?_
  refine e_iload 0 dJ5_newCapacity_0f7a4_34 rfl ?_
  refine e_ldc (x := 2147483647) dJ5_newCapacity_0f7a4_36 cnJ5_39 (by unfold InR; decide) ?_
  refine e_icmp_ne (tgt := 51) dJ5_newCapacity_0f7a4_38 (by decide) (fun c => ?_) (fun c => ?_)
  · rw [if_pos c] at hq
    replace hp := hp.1 c
    refine e_iload 0 dJ5_newCapacity_0f7a4_51 rfl ?_
    refine e_aload_n 4 dJ5_newCapacity_0f7a4_53 rfl ?_
    refine e_getI dJ5_newCapacity_0f7a4_54 flJ5_22 rfl o1 ?_
    refine e_ishr dJ5_newCapacity_0f7a4_57 ?_
    exact e_ireturn dJ5_newCapacity_0f7a4_58 rfl ⟨_, rfl, hq⟩
  · rw [if_neg c] at hq
    replace hp := hp.2 c
    exact hp.elim

set_option maxRecDepth 100000 in
set_option maxHeartbeats 4000000 in
theorem bJ7_copyOf_9075b {G : Gl} {S : Sh} {I : MI} {R : MR} {Q : Sh → MI → MR → Nat → Prop} {x0 : Nat} {x1 : Int} (h : (21 ≤ sT S x0 ∧ ((x1 ≠ (sL S x0 : Int) → (∃ n15 : Nat, x1 = (n15 : Int) ∧ n15 ≤ 100000000 ∧ (∀ S15 I15 R15, S15 = shNew S 22 n15 n15 → I15 = mNew I (sN S) 0 → R15 = mNew R (sN S) 0 → (21 ≤ sT S15 x0 ∧ (sT S15 x0 = 22 ∧ (sT S15 (sN S) = 22 ∧ ((0 : Int) ≤ 0 ∧ ((0 : Int) ≤ (min (sL S15 x0 : Int) x1) ∧ (0 + (min (sL S15 x0 : Int) x1) ≤ (sL S15 x0 : Int) ∧ (0 + (min (sL S15 x0 : Int) x1) ≤ (sL S15 (sN S) : Int) ∧ (∀ I28, I28 = up1 I15 (sN S) (va_cpy (I15 x0) (I15 (sN S)) (Int.toNat 0) (Int.toNat 0) (Int.toNat (min (sL S15 x0 : Int) x1))) → Q S15 I28 R15 (sN S)))))))))))) ∧ (¬ (x1 ≠ (sL S x0 : Int)) → (sT S x0 = 22 ∧ (∀ S7 I7 R7, S7 = shNew S 22 (sL S x0) (sL S x0) → I7 = mCl I (sN S) x0 → R7 = mNew R (sN S) 0 → (sT S7 (sN S) = 22 ∧ Q S7 I7 R7 (sN S)))))))) : CR G MJ7_copyOf_9075b [vR x0, vI x1] S I R Q := by
  show E G MJ7_copyOf_9075b 0 [(0, vR x0), (1, vI x1)] [] S I R (qR Q)
  refine e_iload_n 1 dJ7_copyOf_9075b_0 rfl ?_
  refine e_aload_n 0 dJ7_copyOf_9075b_1 rfl ?_
  have o1 := h.1
  replace h := h.2
  refine e_alen dJ7_copyOf_9075b_2 o1 ?_
  refine e_icmp_ne (tgt := 14) dJ7_copyOf_9075b_3 (by decide) (fun c => ?_) (fun c => ?_)
  · replace h := h.1 c
    refine e_iload_n 1 dJ7_copyOf_9075b_14 rfl ?_
    obtain ⟨n15, h0, h1, h⟩ := h
    obtain ⟨S15, eS15⟩ : ∃ z : Sh, z = shNew S 22 n15 n15 := ⟨_, rfl⟩
    obtain ⟨I15, eI15⟩ : ∃ z : MI, z = mNew I (sN S) 0 := ⟨_, rfl⟩
    obtain ⟨R15, eR15⟩ : ∃ z : MR, z = mNew R (sN S) 0 := ⟨_, rfl⟩
    replace h := h S15 I15 R15 eS15 eI15 eR15
    refine e_newa (t := 22) (n := n15) dJ7_copyOf_9075b_15 (Or.inr ⟨rfl, rfl⟩) acbyte h0 h1 (eqS eS15 (eqI eI15 (eqR eR15 ?_)))
    refine e_astore_n (ls2 := [(2, vR (sN S)), (0, vR x0), (1, vI x1)]) dJ7_copyOf_9075b_17 (by decide) rfl ?_
    refine e_aload_n 1 dJ7_copyOf_9075b_18 rfl ?_
    refine e_iconst dJ7_copyOf_9075b_19 (by unfold InR; decide) ?_
    refine e_aload_n 0 dJ7_copyOf_9075b_20 rfl ?_
    refine e_iconst dJ7_copyOf_9075b_21 (by unfold InR; decide) ?_
    refine e_aload_n 1 dJ7_copyOf_9075b_22 rfl ?_
    have o2 := h.1
    replace h := h.2
    refine e_alen dJ7_copyOf_9075b_23 o2 ?_
    refine e_iload_n 2 dJ7_copyOf_9075b_24 rfl ?_
    refine e_mmin dJ7_copyOf_9075b_25 mmJ7_304 mxmin (by decide) (Nat.le_of_ble_eq_true rfl) ?_
    have o3 := h.1
    replace h := h.2
    have o4 := h.1
    replace h := h.2
    have o5 := h.1
    replace h := h.2
    have o6 := h.1
    replace h := h.2
    have o7 := h.1
    replace h := h.2
    have o8 := h.1
    replace h := h.2
    obtain ⟨I28, eI28⟩ : ∃ z : MI, z = up1 I15 (sN S) (va_cpy (I15 x0) (I15 (sN S)) (Int.toNat 0) (Int.toNat 0) (Int.toNat (min (sL S15 x0 : Int) x1))) := ⟨_, rfl⟩
    replace h := h I28 eI28
    refine e_copyB dJ7_copyOf_9075b_28 ⟨maJ7_150, acp⟩ (by decide) (Nat.le_of_ble_eq_true rfl) o3 o4 o5 o5 o6 o7 o8 (eqI eI28 ?_)
    refine e_aload_n 0 dJ7_copyOf_9075b_31 rfl ?_
    exact e_areturnA dJ7_copyOf_9075b_32 ⟨_, rfl⟩ ⟨_, rfl, h⟩
  · replace h := h.2 c
    refine e_aload_n 0 dJ7_copyOf_9075b_6 rfl ?_
    have o9 := h.1
    replace h := h.2
    obtain ⟨S7, eS7⟩ : ∃ z : Sh, z = shNew S 22 (sL S x0) (sL S x0) := ⟨_, rfl⟩
    obtain ⟨I7, eI7⟩ : ∃ z : MI, z = mCl I (sN S) x0 := ⟨_, rfl⟩
    obtain ⟨R7, eR7⟩ : ∃ z : MR, z = mNew R (sN S) 0 := ⟨_, rfl⟩
    replace h := h S7 I7 R7 eS7 eI7 eR7
    refine e_clone dJ7_copyOf_9075b_7 ⟨mcJ7_310, mclo⟩ (by decide) (Nat.le_of_ble_eq_true rfl) o9 (eqS eS7 (eqI eI7 (eqR eR7 ?_)))
    have o10 := h.1
    replace h := h.2
    refine e_castB dJ7_copyOf_9075b_10 ⟨clJ7_311, acbyte⟩ o10 ?_
    exact e_areturnA dJ7_copyOf_9075b_13 ⟨_, rfl⟩ ⟨_, rfl, h⟩

set_option maxRecDepth 100000 in
set_option maxHeartbeats 4000000 in
theorem bJ5_ensureCapacityInternal_d00df {G : Gl} {S : Sh} {I : MI} {R : MR} {Q : Sh → MI → MR → Prop} {x0 : Nat} {x1 : Int} (h : (sT S x0 = 11 ∧ (21 ≤ sT S (R x0 0) ∧ (((w32 (x1 - (ishr (sL S (R x0 0) : Int) (I x0 1)))) ≤ 0 → Q S I R) ∧ (¬ ((w32 (x1 - (ishr (sL S (R x0 0) : Int) (I x0 1)))) ≤ 0) → ((pJ5_newCapacity_0f7a4 S I R x0 x1) ∧ (CR G MJ7_copyOf_9075b [vR (R x0 0), vI (ishl (vJ5_newCapacity_0f7a4 S I R x0 x1) (I x0 1))] S I R (fun S32 I32 R32 x32_ => (sT S32 x0 = 11 ∧ (∀ R35, R35 = up2 R32 x0 0 x32_ → Q S32 I32 R35)))))))))) : CV G MJ5_ensureCapacityInternal_d00df [vR x0, vI x1] S I R Q := by
  show E G MJ5_ensureCapacityInternal_d00df 0 [(0, vR x0), (1, vI x1)] [] S I R (qV Q)
  refine e_aload_n 0 dJ5_ensureCapacityInternal_d00df_0 rfl ?_
  have o1 := h.1
  replace h := h.2
  refine e_getR dJ5_ensureCapacityInternal_d00df_1 flJ5_15 rfl o1 ?_
  have o2 := h.1
  replace h := h.2
  refine e_alen dJ5_ensureCapacityInternal_d00df_4 o2 ?_
  refine e_aload_n 0 dJ5_ensureCapacityInternal_d00df_5 rfl ?_
  refine e_getI dJ5_ensureCapacityInternal_d00df_6 flJ5_22 rfl o1 ?_
  refine e_ishr dJ5_ensureCapacityInternal_d00df_9 ?_
  refine e_istore_n (ls2 := [(2, vI (ishr (sL S (R x0 0) : Int) (I x0 1))), (0, vR x0), (1, vI x1)]) dJ5_ensureCapacityInternal_d00df_10 (by decide) rfl ?_
  refine e_iload_n 2 dJ5_ensureCapacityInternal_d00df_11 rfl ?_
  refine e_iload_n 0 dJ5_ensureCapacityInternal_d00df_12 rfl ?_
  refine e_isub dJ5_ensureCapacityInternal_d00df_13 ?_
  refine e_if_le (tgt := 38) dJ5_ensureCapacityInternal_d00df_14 (by decide) (fun c => ?_) (fun c => ?_)
  · replace h := h.1 c
    exact e_return dJ5_ensureCapacityInternal_d00df_38 rfl ⟨rfl, h⟩
  · replace h := h.2 c
    refine e_aload_n 1 dJ5_ensureCapacityInternal_d00df_17 rfl ?_
    refine e_aload_n 1 dJ5_ensureCapacityInternal_d00df_18 rfl ?_
    refine e_getR dJ5_ensureCapacityInternal_d00df_19 flJ5_15 rfl o1 ?_
    refine e_aload_n 1 dJ5_ensureCapacityInternal_d00df_22 rfl ?_
    refine e_iload_n 2 dJ5_ensureCapacityInternal_d00df_23 rfl ?_
    have o3 := h.1
    replace h := h.2
    refine i_VUI (μ' := MJ5_newCapacity_0f7a4) (r := x0) (as := [vI x1]) (st := [vR (R x0 0), vR x0]) rfl dJ5_ensureCapacityInternal_d00df_24 mOKJ5_newCapacity_0f7a4 rfl ⟨mlJ5_104, imJ5_newCapacity_0f7a4, suJ5_newCapacity_0f7a4⟩ (by decide) (Nat.le_of_ble_eq_true rfl) rfl (Nat.le_of_ble_eq_true rfl) o1 (sJ5_newCapacity_0f7a4 o3 ?_)
    refine e_aload_n 1 dJ5_ensureCapacityInternal_d00df_27 rfl ?_
    refine e_getI dJ5_ensureCapacityInternal_d00df_28 flJ5_22 rfl o1 ?_
    refine e_ishl dJ5_ensureCapacityInternal_d00df_31 ?_
    refine i_SR (μ' := MJ7_copyOf_9075b) (as := [vR (R x0 0), vI (ishl (vJ5_newCapacity_0f7a4 S I R x0 x1) (I x0 1))]) (st := [vR x0]) rfl dJ5_ensureCapacityInternal_d00df_32 mOKJ7_copyOf_9075b ⟨mlJ5_108, stJ7_copyOf_9075b⟩ (by decide) (Nat.le_of_ble_eq_true rfl) rfl (Nat.le_of_ble_eq_true rfl) (CR.mono h ?_)
    clear h
    intro S32 I32 R32 x32_ h
    have o4 := h.1
    replace h := h.2
    obtain ⟨R35, eR35⟩ : ∃ z : MR, z = up2 R32 x0 0 x32_ := ⟨_, rfl⟩
    replace h := h R35 eR35
    refine e_putR dJ5_ensureCapacityInternal_d00df_35 flJ5_15 rfl (Or.inl rfl) o4 (eqR eR35 ?_)
    exact e_return dJ5_ensureCapacityInternal_d00df_38 rfl ⟨rfl, h⟩

def vJ0_coder_7d493 (I : MI) (x0 : Nat) : Int := (I x0 1)
def pJ0_coder_7d493 (S : Sh) (I : MI) (x0 : Nat) : Prop := (sT S x0 = 10 ∧ ((-128 ≤ (I x0 1) ∧ (I x0 1) < 128) ∧ True))
set_option maxRecDepth 100000 in
set_option maxHeartbeats 4000000 in
theorem sJ0_coder_7d493 {G : Gl} {S : Sh} {I : MI} {R : MR} {Q : Sh → MI → MR → Int → Prop} {x0 : Nat} (hp : pJ0_coder_7d493 S I x0) (hq : Q S I R (vJ0_coder_7d493 I x0)) : CI G MJ0_coder_7d493 [vR x0] S I R Q := by
  show E G MJ0_coder_7d493 0 [(0, vR x0)] [] S I R (qI Q)
  unfold vJ0_coder_7d493 at hq
  unfold pJ0_coder_7d493 at hp
  refine e_getsC dJ0_coder_7d493_0 fsJ0_38 ?_
  refine e_if_eq (tgt := 13) dJ0_coder_7d493_3 (by decide) (fun c => absurd c (by decide)) (fun _ => ?_)
  refine e_aload_n 0 dJ0_coder_7d493_6 rfl ?_
  have o1 := hp.1
  replace hp := hp.2
  refine e_getI dJ0_coder_7d493_7 flJ0_15 rfl o1 ?_
  refine e_goto (tgt := 14) dJ0_coder_7d493_10 (by decide) ?_
  have o2 := hp.1
  replace hp := hp.2
  exact e_breturn dJ0_coder_7d493_14 rfl o2 ⟨_, rfl, hq⟩
def vJ0_coder_7d493_K  (x0 : Nat) : Int := 0
def pJ0_coder_7d493_K  (x0 : Nat) : Prop := (x0 < 6 ∧ True)
set_option maxRecDepth 100000 in
set_option maxHeartbeats 4000000 in
theorem sJ0_coder_7d493_K {G : Gl} {S : Sh} {I : MI} {R : MR} {Q : Sh → MI → MR → Int → Prop} {x0 : Nat} (hp : pJ0_coder_7d493_K x0) (hq : Q S I R (vJ0_coder_7d493_K x0)) : CI G MJ0_coder_7d493 [vO (x0 + 1)] S I R Q := by
  show E G MJ0_coder_7d493 0 [(0, vO (x0 + 1))] [] S I R (qI Q)
  unfold vJ0_coder_7d493_K at hq
  unfold pJ0_coder_7d493_K at hp
  refine e_getsC dJ0_coder_7d493_0 fsJ0_38 ?_
  refine e_if_eq (tgt := 13) dJ0_coder_7d493_3 (by decide) (fun c => absurd c (by decide)) (fun _ => ?_)
  refine e_aload_n 0 dJ0_coder_7d493_6 rfl ?_
  have o1 := hp.1
  replace hp := hp.2
  refine e_getLc o1 dJ0_coder_7d493_7 fkJ0_15 ?_
  refine e_goto (tgt := 14) dJ0_coder_7d493_10 (by decide) ?_
  exact e_breturn dJ0_coder_7d493_14 rfl (by decide) ⟨_, rfl, hq⟩

set_option maxRecDepth 100000 in
set_option maxHeartbeats 4000000 in
theorem bJ5_inflateIfNeededFor_a7421 {G : Gl} {S : Sh} {I : MI} {R : MR} {Q : Sh → MI → MR → Prop} {x0 : Nat} {x1 : Nat} (h : (sT S x0 = 11 ∧ (x1 < 6 ∧ ((pJ0_coder_7d493_K x1) ∧ (((I x0 1) = (vJ0_coder_7d493_K x1) → Q S I R) ∧ (¬ ((I x0 1) = (vJ0_coder_7d493_K x1)) → False)))))) : CV G MJ5_inflateIfNeededFor_a7421 [vR x0, vO (x1 + 1)] S I R Q := by
  show E G MJ5_inflateIfNeededFor_a7421 0 [(0, vR x0), (1, vO (x1 + 1))] [] S I R (qV Q)
  refine e_getsC dJ5_inflateIfNeededFor_a7421_0 fsJ5_18 ?_
  refine e_if_eq (tgt := 21) dJ5_inflateIfNeededFor_a7421_3 (by decide) (fun c => absurd c (by decide)) (fun _ => ?_)
  refine e_aload_n 0 dJ5_inflateIfNeededFor_a7421_6 rfl ?_
  have o1 := h.1
  replace h := h.2
  refine e_getI dJ5_inflateIfNeededFor_a7421_7 flJ5_22 rfl o1 ?_
  refine e_aload_n 1 dJ5_inflateIfNeededFor_a7421_10 rfl ?_
  have o2 := h.1
  replace h := h.2
  have o3 := h.1
  replace h := h.2
  refine i_VLI (μ' := MJ0_coder_7d493) (j := x1) (as := []) (st := [vI (I x0 1)]) rfl o2 dJ5_inflateIfNeededFor_a7421_11 mOKJ0_coder_7d493 ⟨mlJ5_40, imJ0_coder_7d493, seJ0_coder_7d493⟩ (by decide) (Nat.le_of_ble_eq_true rfl) rfl (Nat.le_of_ble_eq_true rfl) rfl (sJ0_coder_7d493_K o3 ?_)
  refine e_icmp_eq (tgt := 21) dJ5_inflateIfNeededFor_a7421_14 (by decide) (fun c => ?_) (fun c => ?_)
  · replace h := h.1 c
    exact e_return dJ5_inflateIfNeededFor_a7421_21 rfl ⟨rfl, h⟩
  · replace h := h.2 c
    refine e_aload_n 0 dJ5_inflateIfNeededFor_a7421_17 rfl ?_
    exact h.elim

set_option maxRecDepth 100000 in
set_option maxHeartbeats 4000000 in
theorem bJ0_getBytes_840e7 {G : Gl} {S : Sh} {I : MI} {R : MR} {Q : Sh → MI → MR → Prop} {x0 : Nat} {x1 : Nat} {x2 : Int} {x3 : Int} (h : (x0 < 6 ∧ ((pJ0_coder_7d493_K x0) ∧ (((vJ0_coder_7d493_K x0) ≠ x3 → False) ∧ (¬ ((vJ0_coder_7d493_K x0) ≠ x3) → (sT S x1 = 22 ∧ ((0 : Int) ≤ 0 ∧ ((0 : Int) ≤ (ishl x2 x3) ∧ ((0 : Int) ≤ (litLen.getD x0 0 : Int) ∧ (0 + (litLen.getD x0 0 : Int) ≤ (litLen.getD x0 0 : Int) ∧ ((ishl x2 x3) + (litLen.getD x0 0 : Int) ≤ (sL S x1 : Int) ∧ (∀ I22, I22 = up1 I x1 (va_cpy (litF x0) (I x1) (Int.toNat 0) (Int.toNat (ishl x2 x3)) (Int.toNat (litLen.getD x0 0 : Int))) → Q S I22 R)))))))))))) : CV G MJ0_getBytes_840e7 [vO (x0 + 1), vR x1, vI x2, vI x3] S I R Q := by
  show E G MJ0_getBytes_840e7 0 [(0, vO (x0 + 1)), (1, vR x1), (2, vI x2), (3, vI x3)] [] S I R (qV Q)
  refine e_aload_n 0 dJ0_getBytes_840e7_0 rfl ?_
  have o1 := h.1
  replace h := h.2
  have o2 := h.1
  replace h := h.2
  refine i_VLI (μ' := MJ0_coder_7d493) (j := x0) (as := []) (st := []) rfl o1 dJ0_getBytes_840e7_1 mOKJ0_coder_7d493 ⟨mlJ0_335, imJ0_coder_7d493, seJ0_coder_7d493⟩ (by decide) (Nat.le_of_ble_eq_true rfl) rfl (Nat.le_of_ble_eq_true rfl) rfl (sJ0_coder_7d493_K o2 ?_)
  refine e_iload_n 3 dJ0_getBytes_840e7_4 rfl ?_
  refine e_icmp_ne (tgt := 28) dJ0_getBytes_840e7_5 (by decide) (fun c => ?_) (fun c => ?_)
  · replace h := h.1 c
    refine e_aload_n 0 dJ0_getBytes_840e7_28 rfl ?_
    refine e_getLv o1 dJ0_getBytes_840e7_29 fkJ0_9 ?_
    refine e_iconst dJ0_getBytes_840e7_32 (by unfold InR; decide) ?_
    refine e_aload_n 1 dJ0_getBytes_840e7_33 rfl ?_
    refine e_iload_n 2 dJ0_getBytes_840e7_34 rfl ?_
    refine e_aload_n 0 dJ0_getBytes_840e7_35 rfl ?_
    refine e_getLv o1 dJ0_getBytes_840e7_36 fkJ0_9 ?_
    refine e_lenL o1 dJ0_getBytes_840e7_39 ?_
    exact h.elim
  · replace h := h.2 c
    refine e_aload_n 0 dJ0_getBytes_840e7_8 rfl ?_
    refine e_getLv o1 dJ0_getBytes_840e7_9 fkJ0_9 ?_
    refine e_iconst dJ0_getBytes_840e7_12 (by unfold InR; decide) ?_
    refine e_aload_n 1 dJ0_getBytes_840e7_13 rfl ?_
    refine e_iload_n 2 dJ0_getBytes_840e7_14 rfl ?_
    refine e_iload_n 3 dJ0_getBytes_840e7_15 rfl ?_
    refine e_ishl dJ0_getBytes_840e7_16 ?_
    refine e_aload_n 0 dJ0_getBytes_840e7_17 rfl ?_
    refine e_getLv o1 dJ0_getBytes_840e7_18 fkJ0_9 ?_
    refine e_lenL o1 dJ0_getBytes_840e7_21 ?_
    have o3 := h.1
    replace h := h.2
    have o4 := h.1
    replace h := h.2
    have o5 := h.1
    replace h := h.2
    have o6 := h.1
    replace h := h.2
    have o7 := h.1
    replace h := h.2
    have o8 := h.1
    replace h := h.2
    obtain ⟨I22, eI22⟩ : ∃ z : MI, z = up1 I x1 (va_cpy (litF x0) (I x1) (Int.toNat 0) (Int.toNat (ishl x2 x3)) (Int.toNat (litLen.getD x0 0 : Int))) := ⟨_, rfl⟩
    replace h := h I22 eI22
    refine e_copyL o1 dJ0_getBytes_840e7_22 ⟨maJ0_212, acp⟩ (by decide) (Nat.le_of_ble_eq_true rfl) o3 o4 o5 o6 o7 o8 (eqI eI22 ?_)
    refine e_goto (tgt := 43) dJ0_getBytes_840e7_25 (by decide) ?_
    exact e_return dJ0_getBytes_840e7_43 rfl ⟨rfl, h⟩

set_option maxRecDepth 100000 in
set_option maxHeartbeats 4000000 in
theorem bJ5_putStringAt_47b60 {G : Gl} {S : Sh} {I : MI} {R : MR} {Q : Sh → MI → MR → Prop} {x0 : Nat} {x1 : Int} {x2 : Nat} (h : (sT S x0 = 11 ∧ (CV G MJ5_inflateIfNeededFor_a7421 [vR x0, vO (x2 + 1)] S I R (fun S2 I2 R2 => (sT S2 x0 = 11 ∧ (x2 < 6 ∧ (CV G MJ0_getBytes_840e7 [vO (x2 + 1), vR (R2 x0 0), vI x1, vI (I2 x0 1)] S2 I2 R2 (fun S15 I15 R15 => Q S15 I15 R15)))))))) : CV G MJ5_putStringAt_47b60 [vR x0, vI x1, vO (x2 + 1)] S I R Q := by
  show E G MJ5_putStringAt_47b60 0 [(0, vR x0), (1, vI x1), (2, vO (x2 + 1))] [] S I R (qV Q)
  refine e_aload_n 0 dJ5_putStringAt_47b60_0 rfl ?_
  refine e_aload_n 2 dJ5_putStringAt_47b60_1 rfl ?_
  have o1 := h.1
  replace h := h.2
  refine i_VUV (μ' := MJ5_inflateIfNeededFor_a7421) (r := x0) (as := [vO (x2 + 1)]) (st := []) rfl dJ5_putStringAt_47b60_2 mOKJ5_inflateIfNeededFor_a7421 rfl ⟨mlJ5_397, imJ5_inflateIfNeededFor_a7421, suJ5_inflateIfNeededFor_a7421⟩ (by decide) (Nat.le_of_ble_eq_true rfl) rfl (Nat.le_of_ble_eq_true rfl) o1 (CV.mono h ?_)
  clear h
  intro S2 I2 R2 h
  refine e_aload_n 2 dJ5_putStringAt_47b60_5 rfl ?_
  refine e_aload_n 0 dJ5_putStringAt_47b60_6 rfl ?_
  have o2 := h.1
  replace h := h.2
  refine e_getR dJ5_putStringAt_47b60_7 flJ5_15 rfl o2 ?_
  refine e_iload_n 1 dJ5_putStringAt_47b60_10 rfl ?_
  refine e_aload_n 0 dJ5_putStringAt_47b60_11 rfl ?_
  refine e_getI dJ5_putStringAt_47b60_12 flJ5_22 rfl o2 ?_
  have o3 := h.1
  replace h := h.2
  refine i_VLV (μ' := MJ0_getBytes_840e7) (j := x2) (as := [vR (R2 x0 0), vI x1, vI (I2 x0 1)]) (st := []) rfl o3 dJ5_putStringAt_47b60_15 mOKJ0_getBytes_840e7 ⟨mlJ5_399, imJ0_getBytes_840e7, seJ0_getBytes_840e7⟩ (by decide) (Nat.le_of_ble_eq_true rfl) rfl (Nat.le_of_ble_eq_true rfl) rfl (CV.mono h ?_)
  clear h
  intro S15 I15 R15 h
  exact e_return dJ5_putStringAt_47b60_18 rfl ⟨rfl, h⟩

def vJ0_length_8abf5 (S : Sh) (I : MI) (R : MR) (x0 : Nat) : Int := (ishr (sL S (R x0 0) : Int) (vJ0_coder_7d493 I x0))
def pJ0_length_8abf5 (S : Sh) (I : MI) (R : MR) (x0 : Nat) : Prop := (sT S x0 = 10 ∧ (21 ≤ sT S (R x0 0) ∧ ((pJ0_coder_7d493 S I x0) ∧ True)))
set_option maxRecDepth 100000 in
set_option maxHeartbeats 4000000 in
theorem sJ0_length_8abf5 {G : Gl} {S : Sh} {I : MI} {R : MR} {Q : Sh → MI → MR → Int → Prop} {x0 : Nat} (hp : pJ0_length_8abf5 S I R x0) (hq : Q S I R (vJ0_length_8abf5 S I R x0)) : CI G MJ0_length_8abf5 [vR x0] S I R Q := by
  show E G MJ0_length_8abf5 0 [(0, vR x0)] [] S I R (qI Q)
  unfold vJ0_length_8abf5 at hq
  unfold pJ0_length_8abf5 at hp
  refine e_aload_n 0 dJ0_length_8abf5_0 rfl ?_
  have o1 := hp.1
  replace hp := hp.2
  refine e_getR dJ0_length_8abf5_1 flJ0_9 rfl o1 ?_
  have o2 := hp.1
  replace hp := hp.2
  refine e_alen dJ0_length_8abf5_4 o2 ?_
  refine e_aload_n 0 dJ0_length_8abf5_5 rfl ?_
  have o3 := hp.1
  replace hp := hp.2
  refine i_VI (μ' := MJ0_coder_7d493) (ci := 9) (r := x0) (as := []) (st := [vI (sL S (R x0 0) : Int)]) rfl dJ0_length_8abf5_6 mOKJ0_coder_7d493 ⟨mlJ0_335, imJ0_coder_7d493, seJ0_coder_7d493⟩ (by decide) (Nat.le_of_ble_eq_true rfl) rfl (Nat.le_of_ble_eq_true rfl) ⟨by decide, rfl⟩ o1 (sJ0_coder_7d493 o3 ?_)
  refine e_ishr dJ0_length_8abf5_9 ?_
  exact e_ireturn dJ0_length_8abf5_10 rfl ⟨_, rfl, hq⟩
def vJ0_length_8abf5_K  (x0 : Nat) : Int := (ishr (litLen.getD x0 0 : Int) (vJ0_coder_7d493_K x0))
def pJ0_length_8abf5_K  (x0 : Nat) : Prop := (x0 < 6 ∧ ((pJ0_coder_7d493_K x0) ∧ True))
set_option maxRecDepth 100000 in
set_option maxHeartbeats 4000000 in
theorem sJ0_length_8abf5_K {G : Gl} {S : Sh} {I : MI} {R : MR} {Q : Sh → MI → MR → Int → Prop} {x0 : Nat} (hp : pJ0_length_8abf5_K x0) (hq : Q S I R (vJ0_length_8abf5_K x0)) : CI G MJ0_length_8abf5 [vO (x0 + 1)] S I R Q := by
  show E G MJ0_length_8abf5 0 [(0, vO (x0 + 1))] [] S I R (qI Q)
  unfold vJ0_length_8abf5_K at hq
  unfold pJ0_length_8abf5_K at hp
  refine e_aload_n 0 dJ0_length_8abf5_0 rfl ?_
  have o1 := hp.1
  replace hp := hp.2
  refine e_getLv o1 dJ0_length_8abf5_1 fkJ0_9 ?_
  refine e_lenL o1 dJ0_length_8abf5_4 ?_
  refine e_aload_n 0 dJ0_length_8abf5_5 rfl ?_
  have o2 := hp.1
  replace hp := hp.2
  refine i_VLI (μ' := MJ0_coder_7d493) (j := x0) (as := []) (st := [vI (litLen.getD x0 0 : Int)]) rfl o1 dJ0_length_8abf5_6 mOKJ0_coder_7d493 ⟨mlJ0_335, imJ0_coder_7d493, seJ0_coder_7d493⟩ (by decide) (Nat.le_of_ble_eq_true rfl) rfl (Nat.le_of_ble_eq_true rfl) rfl (sJ0_coder_7d493_K o2 ?_)
  refine e_ishr dJ0_length_8abf5_9 ?_
  exact e_ireturn dJ0_length_8abf5_10 rfl ⟨_, rfl, hq⟩

set_option maxRecDepth 100000 in
set_option maxHeartbeats 4000000 in
theorem bJ5_append_cf1ce {G : Gl} {S : Sh} {I : MI} {R : MR} {Q : Sh → MI → MR → Nat → Prop} {x0 : Nat} {x1 : Nat} (h : (x1 < 6 ∧ ((pJ0_length_8abf5_K x1) ∧ (sT S x0 = 11 ∧ (CV G MJ5_ensureCapacityInternal_d00df [vR x0, vI (w32 ((I x0 3) + (vJ0_length_8abf5_K x1)))] S I R (fun S21 I21 R21 => (sT S21 x0 = 11 ∧ (CV G MJ5_putStringAt_47b60 [vR x0, vI (I21 x0 3), vO (x1 + 1)] S21 I21 R21 (fun S30 I30 R30 => (sT S30 x0 = 11 ∧ (∀ I40, I40 = up2 I30 x0 3 (w32 ((I30 x0 3) + (vJ0_length_8abf5_K x1))) → Q S30 I40 R30 x0))))))))))) : CR G MJ5_append_cf1ce [vR x0, vO (x1 + 1)] S I R Q := by
  show E G MJ5_append_cf1ce 0 [(0, vR x0), (1, vO (x1 + 1))] [] S I R (qR Q)
  refine e_aload_n 1 dJ5_append_cf1ce_0 rfl ?_
  have o1 := h.1
  replace h := h.2
  refine e_ifnonnullO (tgt := 9) o1 dJ5_append_cf1ce_1 (by decide) ?_
  refine e_aload_n 1 dJ5_append_cf1ce_9 rfl ?_
  have o2 := h.1
  replace h := h.2
  refine i_VLI (μ' := MJ0_length_8abf5) (j := x1) (as := []) (st := []) rfl o1 dJ5_append_cf1ce_10 mOKJ0_length_8abf5 ⟨mlJ5_32, imJ0_length_8abf5, seJ0_length_8abf5⟩ (by decide) (Nat.le_of_ble_eq_true rfl) rfl (Nat.le_of_ble_eq_true rfl) rfl (sJ0_length_8abf5_K o2 ?_)
  refine e_istore_n (ls2 := [(2, vI (vJ0_length_8abf5_K x1)), (0, vR x0), (1, vO (x1 + 1))]) dJ5_append_cf1ce_13 (by decide) rfl ?_
  refine e_aload_n 1 dJ5_append_cf1ce_14 rfl ?_
  refine e_aload_n 1 dJ5_append_cf1ce_15 rfl ?_
  have o3 := h.1
  replace h := h.2
  refine e_getI dJ5_append_cf1ce_16 flJ5_79 rfl o3 ?_
  refine e_iload_n 0 dJ5_append_cf1ce_19 rfl ?_
  refine e_iadd dJ5_append_cf1ce_20 ?_
  refine i_VUV (μ' := MJ5_ensureCapacityInternal_d00df) (r := x0) (as := [vI (w32 ((I x0 3) + (vJ0_length_8abf5_K x1)))]) (st := []) rfl dJ5_append_cf1ce_21 mOKJ5_ensureCapacityInternal_d00df rfl ⟨mlJ5_100, imJ5_ensureCapacityInternal_d00df, suJ5_ensureCapacityInternal_d00df⟩ (by decide) (Nat.le_of_ble_eq_true rfl) rfl (Nat.le_of_ble_eq_true rfl) o3 (CV.mono h ?_)
  clear h
  intro S21 I21 R21 h
  refine e_aload_n 1 dJ5_append_cf1ce_24 rfl ?_
  refine e_aload_n 1 dJ5_append_cf1ce_25 rfl ?_
  have o4 := h.1
  replace h := h.2
  refine e_getI dJ5_append_cf1ce_26 flJ5_79 rfl o4 ?_
  refine e_aload_n 2 dJ5_append_cf1ce_29 rfl ?_
  refine i_VUV (μ' := MJ5_putStringAt_47b60) (r := x0) (as := [vI (I21 x0 3), vO (x1 + 1)]) (st := []) rfl dJ5_append_cf1ce_30 mOKJ5_putStringAt_47b60 rfl ⟨mlJ5_208, imJ5_putStringAt_47b60, suJ5_putStringAt_47b60⟩ (by decide) (Nat.le_of_ble_eq_true rfl) rfl (Nat.le_of_ble_eq_true rfl) o4 (CV.mono h ?_)
  clear h
  intro S30 I30 R30 h
  refine e_aload_n 1 dJ5_append_cf1ce_33 rfl ?_
  refine e_dup dJ5_append_cf1ce_34 rfl ?_
  have o5 := h.1
  replace h := h.2
  refine e_getI dJ5_append_cf1ce_35 flJ5_79 rfl o5 ?_
  refine e_iload_n 0 dJ5_append_cf1ce_38 rfl ?_
  refine e_iadd dJ5_append_cf1ce_39 ?_
  obtain ⟨I40, eI40⟩ : ∃ z : MI, z = up2 I30 x0 3 (w32 ((I30 x0 3) + (vJ0_length_8abf5_K x1))) := ⟨_, rfl⟩
  replace h := h I40 eI40
  refine e_putI dJ5_append_cf1ce_40 flJ5_79 rfl (Or.inl rfl) o5 (eqI eI40 ?_)
  refine e_aload_n 1 dJ5_append_cf1ce_43 rfl ?_
  exact e_areturn (C := "") dJ5_append_cf1ce_44 ⟨_, rfl⟩ ⟨_, rfl, h⟩

def vJ5_isLatin1_aae02 (I : MI) (x0 : Nat) : Int := (if (I x0 1) ≠ 0 then 0 else 1)
def pJ5_isLatin1_aae02 (S : Sh) (x0 : Nat) : Prop := (sT S x0 = 11 ∧ True)
set_option maxRecDepth 100000 in
set_option maxHeartbeats 4000000 in
theorem sJ5_isLatin1_aae02 {G : Gl} {S : Sh} {I : MI} {R : MR} {Q : Sh → MI → MR → Int → Prop} {x0 : Nat} (hp : pJ5_isLatin1_aae02 S x0) (hq : Q S I R (vJ5_isLatin1_aae02 I x0)) : CI G MJ5_isLatin1_aae02 [vR x0] S I R Q := by
  show E G MJ5_isLatin1_aae02 0 [(0, vR x0)] [] S I R (qI Q)
  unfold vJ5_isLatin1_aae02 at hq
  unfold pJ5_isLatin1_aae02 at hp
  refine e_getsC dJ5_isLatin1_aae02_0 fsJ5_18 ?_
  refine e_if_eq (tgt := 17) dJ5_isLatin1_aae02_3 (by decide) (fun c => absurd c (by decide)) (fun _ => ?_)
  refine e_aload_n 0 dJ5_isLatin1_aae02_6 rfl ?_
  have o1 := hp.1
  replace hp := hp.2
  refine e_getI dJ5_isLatin1_aae02_7 flJ5_22 rfl o1 ?_
  refine e_if_ne (tgt := 17) dJ5_isLatin1_aae02_10 (by decide) (fun c => ?_) (fun c => ?_)
  · rw [if_pos c] at hq
    refine e_iconst dJ5_isLatin1_aae02_17 (by unfold InR; decide) ?_
    exact e_zreturn dJ5_isLatin1_aae02_18 rfl (by decide) ⟨_, rfl, hq⟩
  · rw [if_neg c] at hq
    refine e_iconst dJ5_isLatin1_aae02_13 (by unfold InR; decide) ?_
    refine e_goto (tgt := 18) dJ5_isLatin1_aae02_14 (by decide) ?_
    exact e_zreturn dJ5_isLatin1_aae02_18 rfl (by decide) ⟨_, rfl, hq⟩

def vJ1_canEncode_fc78d  (x0 : Int) : Int := (if 255 < x0 then 0 else 1)
set_option maxRecDepth 100000 in
set_option maxHeartbeats 4000000 in
theorem sJ1_canEncode_fc78d {G : Gl} {S : Sh} {I : MI} {R : MR} {Q : Sh → MI → MR → Int → Prop} {x0 : Int} (hq : Q S I R (vJ1_canEncode_fc78d x0)) : CI G MJ1_canEncode_fc78d [vI x0] S I R Q := by
  show E G MJ1_canEncode_fc78d 0 [(0, vI x0)] [] S I R (qI Q)
  unfold vJ1_canEncode_fc78d at hq
  refine e_iload_n 0 dJ1_canEncode_fc78d_0 rfl ?_
  refine e_sipush (x := 255) dJ1_canEncode_fc78d_1 ⟨by decide +kernel, by unfold InR; decide⟩ ?_
  refine e_icmp_gt (tgt := 11) dJ1_canEncode_fc78d_4 (by decide) (fun c => ?_) (fun c => ?_)
  · rw [if_pos c] at hq
    refine e_iconst dJ1_canEncode_fc78d_11 (by unfold InR; decide) ?_
    exact e_zreturn dJ1_canEncode_fc78d_12 rfl (by decide) ⟨_, rfl, hq⟩
  · rw [if_neg c] at hq
    refine e_iconst dJ1_canEncode_fc78d_7 (by unfold InR; decide) ?_
    refine e_goto (tgt := 12) dJ1_canEncode_fc78d_8 (by decide) ?_
    exact e_zreturn dJ1_canEncode_fc78d_12 rfl (by decide) ⟨_, rfl, hq⟩

def LJ5_append_3fe6f_56 (G : Gl) (x0 : Nat) (x1 : Int) (S : Sh) (I : MI) (R : MR) (Q : Sh → MI → MR → Nat → Prop) : Prop := E G MJ5_append_3fe6f 56 [(0, vR x0), (1, vI x1)] [] S I R (qR Q)
set_option maxRecDepth 100000 in
set_option maxHeartbeats 4000000 in
theorem bJ5_append_3fe6f {G : Gl} {S : Sh} {I : MI} {R : MR} {Q : Sh → MI → MR → Nat → Prop} {x0 : Nat} {x1 : Int} (h : (sT S x0 = 11 ∧ (CV G MJ5_ensureCapacityInternal_d00df [vR x0, vI (w32 ((I x0 3) + 1))] S I R (fun S7 I7 R7 => (sT S7 x0 = 11 ∧ ((pJ5_isLatin1_aae02 S7 x0) ∧ (((vJ5_isLatin1_aae02 I7 x0) = 0 → (((vJ5_isLatin1_aae02 I7 x0) = 0 → LJ5_append_3fe6f_56 G x0 x1 S7 I7 R7 Q) ∧ (¬ ((vJ5_isLatin1_aae02 I7 x0) = 0) → False))) ∧ (¬ ((vJ5_isLatin1_aae02 I7 x0) = 0) → (((vJ1_canEncode_fc78d x1) = 0 → (((vJ5_isLatin1_aae02 I7 x0) = 0 → LJ5_append_3fe6f_56 G x0 x1 S7 I7 R7 Q) ∧ (¬ ((vJ5_isLatin1_aae02 I7 x0) = 0) → False))) ∧ (¬ ((vJ1_canEncode_fc78d x1) = 0) → (∀ I36, I36 = up2 I7 x0 3 (w32 ((I7 x0 3) + 1)) → (sT S7 (R7 x0 0) = 22 ∧ (((0 : Int) ≤ (I7 x0 3) ∧ (I7 x0 3) < (sL S7 (R7 x0 0) : Int)) ∧ ((-128 ≤ ((i2b x1) : Int) ∧ ((i2b x1) : Int) < 128) ∧ (∀ I41, I41 = up2 I36 (R7 x0 0) (Int.toNat (I7 x0 3)) (i2b x1) → Q S7 I41 R7 x0))))))))))))))) : CR G MJ5_append_3fe6f [vR x0, vI x1] S I R Q := by
  show E G MJ5_append_3fe6f 0 [(0, vR x0), (1, vI x1)] [] S I R (qR Q)
  refine e_aload_n 0 dJ5_append_3fe6f_0 rfl ?_
  refine e_aload_n 0 dJ5_append_3fe6f_1 rfl ?_
  have o1 := h.1
  replace h := h.2
  refine e_getI dJ5_append_3fe6f_2 flJ5_79 rfl o1 ?_
  refine e_iconst dJ5_append_3fe6f_5 (by unfold InR; decide) ?_
  refine e_iadd dJ5_append_3fe6f_6 ?_
  refine i_VUV (μ' := MJ5_ensureCapacityInternal_d00df) (r := x0) (as := [vI (w32 ((I x0 3) + 1))]) (st := []) rfl dJ5_append_3fe6f_7 mOKJ5_ensureCapacityInternal_d00df rfl ⟨mlJ5_100, imJ5_ensureCapacityInternal_d00df, suJ5_ensureCapacityInternal_d00df⟩ (by decide) (Nat.le_of_ble_eq_true rfl) rfl (Nat.le_of_ble_eq_true rfl) o1 (CV.mono h ?_)
  clear h
  intro S7 I7 R7 h
  refine e_aload_n 0 dJ5_append_3fe6f_10 rfl ?_
  have o2 := h.1
  replace h := h.2
  have o3 := h.1
  replace h := h.2
  refine i_VUI (μ' := MJ5_isLatin1_aae02) (r := x0) (as := []) (st := []) rfl dJ5_append_3fe6f_11 mOKJ5_isLatin1_aae02 rfl ⟨mlJ5_83, imJ5_isLatin1_aae02, suJ5_isLatin1_aae02⟩ (by decide) (Nat.le_of_ble_eq_true rfl) rfl (Nat.le_of_ble_eq_true rfl) o2 (sJ5_isLatin1_aae02 o3 ?_)
  refine e_if_eq (tgt := 45) dJ5_append_3fe6f_14 (by decide) (fun c => ?_) (fun c => ?_)
  · replace h := h.1 c
    refine e_aload_n 0 dJ5_append_3fe6f_45 rfl ?_
    refine i_VUI (μ' := MJ5_isLatin1_aae02) (r := x0) (as := []) (st := []) rfl dJ5_append_3fe6f_46 mOKJ5_isLatin1_aae02 rfl ⟨mlJ5_83, imJ5_isLatin1_aae02, suJ5_isLatin1_aae02⟩ (by decide) (Nat.le_of_ble_eq_true rfl) rfl (Nat.le_of_ble_eq_true rfl) o2 (sJ5_isLatin1_aae02 o3 ?_)
    refine e_if_eq (tgt := 56) dJ5_append_3fe6f_49 (by decide) (fun c => ?_) (fun c => ?_)
    · replace h := h.1 c
      exact e_sub (ls2 := [(0, vR x0), (1, vI x1)]) [0, 1] rfl h
    · replace h := h.2 c
      refine e_aload_n 0 dJ5_append_3fe6f_52 rfl ?_
      exact h.elim
  · replace h := h.2 c
    refine e_iload_n 1 dJ5_append_3fe6f_17 rfl ?_
    refine i_SI (μ' := MJ1_canEncode_fc78d) (as := [vI x1]) (st := []) rfl dJ5_append_3fe6f_18 mOKJ1_canEncode_fc78d ⟨mlJ5_191, stJ1_canEncode_fc78d⟩ (by decide) (Nat.le_of_ble_eq_true rfl) rfl (Nat.le_of_ble_eq_true rfl) (sJ1_canEncode_fc78d ?_)
    refine e_if_eq (tgt := 45) dJ5_append_3fe6f_21 (by decide) (fun c => ?_) (fun c => ?_)
    · replace h := h.1 c
      refine e_aload_n 0 dJ5_append_3fe6f_45 rfl ?_
      refine i_VUI (μ' := MJ5_isLatin1_aae02) (r := x0) (as := []) (st := []) rfl dJ5_append_3fe6f_46 mOKJ5_isLatin1_aae02 rfl ⟨mlJ5_83, imJ5_isLatin1_aae02, suJ5_isLatin1_aae02⟩ (by decide) (Nat.le_of_ble_eq_true rfl) rfl (Nat.le_of_ble_eq_true rfl) o2 (sJ5_isLatin1_aae02 o3 ?_)
      refine e_if_eq (tgt := 56) dJ5_append_3fe6f_49 (by decide) (fun c => ?_) (fun c => ?_)
      · replace h := h.1 c
        exact e_sub (ls2 := [(0, vR x0), (1, vI x1)]) [0, 1] rfl h
      · replace h := h.2 c
        refine e_aload_n 0 dJ5_append_3fe6f_52 rfl ?_
        exact h.elim
    · replace h := h.2 c
      refine e_aload_n 0 dJ5_append_3fe6f_24 rfl ?_
      refine e_getR dJ5_append_3fe6f_25 flJ5_15 rfl o2 ?_
      refine e_aload_n 0 dJ5_append_3fe6f_28 rfl ?_
      refine e_dup dJ5_append_3fe6f_29 rfl ?_
      refine e_getI dJ5_append_3fe6f_30 flJ5_79 rfl o2 ?_
      refine e_dup_x1 dJ5_append_3fe6f_33 rfl rfl ?_
      refine e_iconst dJ5_append_3fe6f_34 (by unfold InR; decide) ?_
      refine e_iadd dJ5_append_3fe6f_35 ?_
      obtain ⟨I36, eI36⟩ : ∃ z : MI, z = up2 I7 x0 3 (w32 ((I7 x0 3) + 1)) := ⟨_, rfl⟩
      replace h := h I36 eI36
      refine e_putI dJ5_append_3fe6f_36 flJ5_79 rfl (Or.inl rfl) o2 (eqI eI36 ?_)
      refine e_iload_n 1 dJ5_append_3fe6f_39 rfl ?_
      refine e_i2b dJ5_append_3fe6f_40 ?_
      have o4 := h.1
      replace h := h.2
      have o5 := h.1
      replace h := h.2
      have o6 := h.1
      replace h := h.2
      obtain ⟨I41, eI41⟩ : ∃ z : MI, z = up2 I36 (R7 x0 0) (Int.toNat (I7 x0 3)) (i2b x1) := ⟨_, rfl⟩
      replace h := h I41 eI41
      refine e_bast dJ5_append_3fe6f_41 o4 o5 o6 (eqI eI41 ?_)
      refine e_goto (tgt := 75) dJ5_append_3fe6f_42 (by decide) ?_
      refine e_aload_n 0 dJ5_append_3fe6f_75 rfl ?_
      exact e_areturn (C := "") dJ5_append_3fe6f_76 ⟨_, rfl⟩ ⟨_, rfl, h⟩
set_option maxRecDepth 100000 in
set_option maxHeartbeats 4000000 in
theorem bJ5_append_3fe6f_56 {G : Gl} {S : Sh} {I : MI} {R : MR} {Q : Sh → MI → MR → Nat → Prop} {x0 : Nat} {x1 : Int} (h : (sT S x0 = 11 ∧ (∀ I68, I68 = up2 I x0 3 (w32 ((I x0 3) + 1)) → False))) : LJ5_append_3fe6f_56 G x0 x1 S I R Q := by
  show E G MJ5_append_3fe6f 56 [(0, vR x0), (1, vI x1)] [] S I R (qR Q)
  refine e_aload_n 0 dJ5_append_3fe6f_56 rfl ?_
  have o7 := h.1
  replace h := h.2
  refine e_getR dJ5_append_3fe6f_57 flJ5_15 rfl o7 ?_
  refine e_aload_n 0 dJ5_append_3fe6f_60 rfl ?_
  refine e_dup dJ5_append_3fe6f_61 rfl ?_
  refine e_getI dJ5_append_3fe6f_62 flJ5_79 rfl o7 ?_
  refine e_dup_x1 dJ5_append_3fe6f_65 rfl rfl ?_
  refine e_iconst dJ5_append_3fe6f_66 (by unfold InR; decide) ?_
  refine e_iadd dJ5_append_3fe6f_67 ?_
  obtain ⟨I68, eI68⟩ : ∃ z : MI, z = up2 I x0 3 (w32 ((I x0 3) + 1)) := ⟨_, rfl⟩
  replace h := h I68 eI68
  refine e_putI dJ5_append_3fe6f_68 flJ5_79 rfl (Or.inl rfl) o7 (eqI eI68 ?_)
  refine e_iload_n 1 dJ5_append_3fe6f_71 rfl ?_
  exact h.elim

def LJ6_getChars_ba4f3_22 (G : Gl) (x0 : Int) (x2 : Nat) (x5 : Int) (x6 : Int) (S : Sh) (I : MI) (R : MR) (Q : Sh → MI → MR → Int → Prop) : Prop := E G MJ6_getChars_ba4f3 22 [(0, vI x0), (2, vR x2), (5, vI x5), (6, vI x6)] [] S I R (qI Q)
set_option maxRecDepth 100000 in
set_option maxHeartbeats 4000000 in
theorem bJ6_getChars_ba4f3 {G : Gl} {S : Sh} {I : MI} {R : MR} {Q : Sh → MI → MR → Int → Prop} {x0 : Int} {x1 : Int} {x2 : Nat} (h : ((0 ≤ x0 → LJ6_getChars_ba4f3_22 G (w32 (-x0)) x2 x1 0 S I R Q) ∧ (¬ (0 ≤ x0) → LJ6_getChars_ba4f3_22 G x0 x2 x1 1 S I R Q))) : CI G MJ6_getChars_ba4f3 [vI x0, vI x1, vR x2] S I R Q := by
  show E G MJ6_getChars_ba4f3 0 [(0, vI x0), (1, vI x1), (2, vR x2)] [] S I R (qI Q)
  refine e_iload_n 1 dJ6_getChars_ba4f3_0 rfl ?_
  refine e_istore (ls2 := [(5, vI x1), (0, vI x0), (1, vI x1), (2, vR x2)]) dJ6_getChars_ba4f3_1 (by decide) rfl ?_
  refine e_iload_n 1 dJ6_getChars_ba4f3_3 rfl ?_
  refine e_if_ge (tgt := 11) dJ6_getChars_ba4f3_4 (by decide) (fun c => ?_) (fun c => ?_)
  · replace h := h.1 c
    refine e_iconst dJ6_getChars_ba4f3_11 (by unfold InR; decide) ?_
    refine e_istore (ls2 := [(6, vI 0), (5, vI x1), (0, vI x0), (1, vI x1), (2, vR x2)]) dJ6_getChars_ba4f3_12 (by decide) rfl ?_
    refine e_iload 0 dJ6_getChars_ba4f3_14 rfl ?_
    refine e_if_ne (tgt := 22) dJ6_getChars_ba4f3_16 (by decide) (fun c => absurd c (by decide)) (fun _ => ?_)
    refine e_iload_n 2 dJ6_getChars_ba4f3_19 rfl ?_
    refine e_ineg dJ6_getChars_ba4f3_20 ?_
    refine e_istore_n (ls2 := [(0, vI (w32 (-x0))), (6, vI 0), (5, vI x1), (1, vI x1), (2, vR x2)]) dJ6_getChars_ba4f3_21 (by decide) rfl ?_
    exact e_sub (ls2 := [(0, vI (w32 (-x0))), (2, vR x2), (5, vI x1), (6, vI 0)]) [0, 4, 2, 1] rfl h
  · replace h := h.2 c
    refine e_iconst dJ6_getChars_ba4f3_7 (by unfold InR; decide) ?_
    refine e_goto (tgt := 12) dJ6_getChars_ba4f3_8 (by decide) ?_
    refine e_istore (ls2 := [(6, vI 1), (5, vI x1), (0, vI x0), (1, vI x1), (2, vR x2)]) dJ6_getChars_ba4f3_12 (by decide) rfl ?_
    refine e_iload 0 dJ6_getChars_ba4f3_14 rfl ?_
    refine e_if_ne (tgt := 22) dJ6_getChars_ba4f3_16 (by decide) (fun _ => ?_) (fun c => absurd (by decide) c)
    exact e_sub (ls2 := [(0, vI x0), (2, vR x2), (5, vI x1), (6, vI 1)]) [2, 4, 1, 0] rfl h
set_option maxRecDepth 100000 in
set_option maxHeartbeats 4000000 in
theorem bJ6_getChars_ba4f3_22 {G : Gl} {S : Sh} {I : MI} {R : MR} {Q : Sh → MI → MR → Int → Prop} {x0 : Int} {x2 : Nat} {x5 : Int} {x6 : Int} (h : (((-100) < x0 → (((0 : Int) ≤ (w32 (-x0)) ∧ (w32 (-x0)) < 100) ∧ (sT S x2 = 22 ∧ (((0 : Int) ≤ (w32 (x5 + (-1))) ∧ (w32 (x5 + (-1))) < (sL S x2 : Int)) ∧ ((-128 ≤ ((48 + (w32 (-x0)) % 10) : Int) ∧ ((48 + (w32 (-x0)) % 10) : Int) < 128) ∧ (∀ I84, I84 = up2 I x2 (Int.toNat (w32 (x5 + (-1)))) (48 + (w32 (-x0)) % 10) → (((-9) ≤ x0 → ((x6 = 0 → Q S I84 R (w32 (x5 + (-1)))) ∧ (¬ (x6 = 0) → (((0 : Int) ≤ (w32 ((w32 (x5 + (-1))) + (-1))) ∧ (w32 ((w32 (x5 + (-1))) + (-1))) < (sL S x2 : Int)) ∧ ((-128 ≤ (45 : Int) ∧ (45 : Int) < 128) ∧ (∀ I117, I117 = up2 I84 x2 (Int.toNat (w32 ((w32 (x5 + (-1))) + (-1)))) 45 → Q S I117 R (w32 ((w32 (x5 + (-1))) + (-1))))))))) ∧ (¬ ((-9) ≤ x0) → False)))))))) ∧ (¬ ((-100) < x0) → (((0 : Int) ≤ (w32 ((w32 ((idiv x0 100) * 100)) - x0)) ∧ (w32 ((w32 ((idiv x0 100) * 100)) - x0)) < 100) ∧ (sT S x2 = 22 ∧ (((0 : Int) ≤ (w32 (x5 + (-1))) ∧ (w32 (x5 + (-1))) < (sL S x2 : Int)) ∧ ((-128 ≤ ((48 + (w32 ((w32 ((idiv x0 100) * 100)) - x0)) % 10) : Int) ∧ ((48 + (w32 ((w32 ((idiv x0 100) * 100)) - x0)) % 10) : Int) < 128) ∧ (∀ I55, I55 = up2 I x2 (Int.toNat (w32 (x5 + (-1)))) (48 + (w32 ((w32 ((idiv x0 100) * 100)) - x0)) % 10) → False)))))))) : LJ6_getChars_ba4f3_22 G x0 x2 x5 x6 S I R Q := by
  show E G MJ6_getChars_ba4f3 22 [(0, vI x0), (2, vR x2), (5, vI x5), (6, vI x6)] [] S I R (qI Q)
  refine e_iload_n 0 dJ6_getChars_ba4f3_22 rfl ?_
  refine e_bipush (x := (-100)) dJ6_getChars_ba4f3_23 ⟨by decide +kernel, by unfold InR; decide⟩ ?_
  refine e_icmp_gt (tgt := 72) dJ6_getChars_ba4f3_25 (by decide) (fun c => ?_) (fun c => ?_)
  · replace h := h.1 c
    refine e_aload_n 1 dJ6_getChars_ba4f3_72 rfl ?_
    refine e_iinc (ls2 := [(5, vI (w32 (x5 + (-1)))), (0, vI x0), (2, vR x2), (6, vI x6)]) 2 dJ6_getChars_ba4f3_73 rfl (by decide) rfl ?_
    refine e_iload 0 dJ6_getChars_ba4f3_76 rfl ?_
    refine e_getsD dJ6_getChars_ba4f3_78 fsJ6_83 ?_
    refine e_iload_n 1 dJ6_getChars_ba4f3_81 rfl ?_
    refine e_ineg dJ6_getChars_ba4f3_82 ?_
    have o1 := h.1
    replace h := h.2
    refine e_baldD dJ6_getChars_ba4f3_83 o1 ?_
    have o2 := h.1
    replace h := h.2
    have o3 := h.1
    replace h := h.2
    have o4 := h.1
    replace h := h.2
    obtain ⟨I84, eI84⟩ : ∃ z : MI, z = up2 I x2 (Int.toNat (w32 (x5 + (-1)))) (48 + (w32 (-x0)) % 10) := ⟨_, rfl⟩
    replace h := h I84 eI84
    refine e_bast dJ6_getChars_ba4f3_84 o2 o3 o4 (eqI eI84 ?_)
    refine e_iload_n 1 dJ6_getChars_ba4f3_85 rfl ?_
    refine e_bipush (x := (-9)) dJ6_getChars_ba4f3_86 ⟨by decide +kernel, by unfold InR; decide⟩ ?_
    refine e_icmp_ge (tgt := 104) dJ6_getChars_ba4f3_88 (by decide) (fun c => ?_) (fun c => ?_)
    · replace h := h.1 c
      refine e_iload 3 dJ6_getChars_ba4f3_104 rfl ?_
      refine e_if_eq (tgt := 118) dJ6_getChars_ba4f3_106 (by decide) (fun c => ?_) (fun c => ?_)
      · replace h := h.1 c
        refine e_iload 0 dJ6_getChars_ba4f3_118 rfl ?_
        exact e_ireturn dJ6_getChars_ba4f3_120 rfl ⟨_, rfl, h⟩
      · replace h := h.2 c
        refine e_aload_n 2 dJ6_getChars_ba4f3_109 rfl ?_
        refine e_iinc (ls2 := [(5, vI (w32 ((w32 (x5 + (-1))) + (-1)))), (0, vI x0), (2, vR x2), (6, vI x6)]) 0 dJ6_getChars_ba4f3_110 rfl (by decide) rfl ?_
        refine e_iload 0 dJ6_getChars_ba4f3_113 rfl ?_
        refine e_bipush (x := 45) dJ6_getChars_ba4f3_115 ⟨by decide +kernel, by unfold InR; decide⟩ ?_
        have o5 := h.1
        replace h := h.2
        have o6 := h.1
        replace h := h.2
        obtain ⟨I117, eI117⟩ : ∃ z : MI, z = up2 I84 x2 (Int.toNat (w32 ((w32 (x5 + (-1))) + (-1)))) 45 := ⟨_, rfl⟩
        replace h := h I117 eI117
        refine e_bast dJ6_getChars_ba4f3_117 o2 o5 o6 (eqI eI117 ?_)
        refine e_iload 0 dJ6_getChars_ba4f3_118 rfl ?_
        exact e_ireturn dJ6_getChars_ba4f3_120 rfl ⟨_, rfl, h⟩
    · replace h := h.2 c
      refine e_aload_n 2 dJ6_getChars_ba4f3_91 rfl ?_
      refine e_iinc (ls2 := [(5, vI (w32 ((w32 (x5 + (-1))) + (-1)))), (0, vI x0), (2, vR x2), (6, vI x6)]) 0 dJ6_getChars_ba4f3_92 rfl (by decide) rfl ?_
      refine e_iload 0 dJ6_getChars_ba4f3_95 rfl ?_
      exact h.elim
  · replace h := h.2 c
    refine e_iload_n 0 dJ6_getChars_ba4f3_28 rfl ?_
    refine e_bipush (x := 100) dJ6_getChars_ba4f3_29 ⟨by decide +kernel, by unfold InR; decide⟩ ?_
    refine e_idiv dJ6_getChars_ba4f3_31 (by decide) ?_
    refine e_istore_n (ls2 := [(3, vI (idiv x0 100)), (0, vI x0), (2, vR x2), (5, vI x5), (6, vI x6)]) dJ6_getChars_ba4f3_32 (by decide) rfl ?_
    refine e_iload_n 0 dJ6_getChars_ba4f3_33 rfl ?_
    refine e_bipush (x := 100) dJ6_getChars_ba4f3_34 ⟨by decide +kernel, by unfold InR; decide⟩ ?_
    refine e_imul dJ6_getChars_ba4f3_36 ?_
    refine e_iload_n 1 dJ6_getChars_ba4f3_37 rfl ?_
    refine e_isub dJ6_getChars_ba4f3_38 ?_
    refine e_istore (ls2 := [(4, vI (w32 ((w32 ((idiv x0 100) * 100)) - x0))), (3, vI (idiv x0 100)), (0, vI x0), (2, vR x2), (5, vI x5), (6, vI x6)]) dJ6_getChars_ba4f3_39 (by decide) rfl ?_
    refine e_iload_n 1 dJ6_getChars_ba4f3_41 rfl ?_
    refine e_istore_n (ls2 := [(0, vI (idiv x0 100)), (4, vI (w32 ((w32 ((idiv x0 100) * 100)) - x0))), (3, vI (idiv x0 100)), (2, vR x2), (5, vI x5), (6, vI x6)]) dJ6_getChars_ba4f3_42 (by decide) rfl ?_
    refine e_aload_n 3 dJ6_getChars_ba4f3_43 rfl ?_
    refine e_iinc (ls2 := [(5, vI (w32 (x5 + (-1)))), (0, vI (idiv x0 100)), (4, vI (w32 ((w32 ((idiv x0 100) * 100)) - x0))), (3, vI (idiv x0 100)), (2, vR x2), (6, vI x6)]) 4 dJ6_getChars_ba4f3_44 rfl (by decide) rfl ?_
    refine e_iload 0 dJ6_getChars_ba4f3_47 rfl ?_
    refine e_getsD dJ6_getChars_ba4f3_49 fsJ6_83 ?_
    refine e_iload 2 dJ6_getChars_ba4f3_52 rfl ?_
    have o7 := h.1
    replace h := h.2
    refine e_baldD dJ6_getChars_ba4f3_54 o7 ?_
    have o8 := h.1
    replace h := h.2
    have o9 := h.1
    replace h := h.2
    have o10 := h.1
    replace h := h.2
    obtain ⟨I55, eI55⟩ : ∃ z : MI, z = up2 I x2 (Int.toNat (w32 (x5 + (-1)))) (48 + (w32 ((w32 ((idiv x0 100) * 100)) - x0)) % 10) := ⟨_, rfl⟩
    replace h := h I55 eI55
    refine e_bast dJ6_getChars_ba4f3_55 o8 o9 o10 (eqI eI55 ?_)
    refine e_aload_n 4 dJ6_getChars_ba4f3_56 rfl ?_
    refine e_iinc (ls2 := [(5, vI (w32 ((w32 (x5 + (-1))) + (-1)))), (0, vI (idiv x0 100)), (4, vI (w32 ((w32 ((idiv x0 100) * 100)) - x0))), (3, vI (idiv x0 100)), (2, vR x2), (6, vI x6)]) 0 dJ6_getChars_ba4f3_57 rfl (by decide) rfl ?_
    refine e_iload 0 dJ6_getChars_ba4f3_60 rfl ?_
    exact h.elim

def LJ6_stringSize_0f7a4_16 (G : Gl) (x0 : Int) (x1 : Int) (x2 : Int) (x3 : Int) (S : Sh) (I : MI) (R : MR) (Q : Sh → MI → MR → Int → Prop) : Prop := E G MJ6_stringSize_0f7a4 16 [(0, vI x0), (1, vI x1), (2, vI x2), (3, vI x3)] [] S I R (qI Q)
set_option maxRecDepth 100000 in
set_option maxHeartbeats 4000000 in
theorem bJ6_stringSize_0f7a4 {G : Gl} {S : Sh} {I : MI} {R : MR} {Q : Sh → MI → MR → Int → Prop} {x0 : Int} (h : ((x0 < 0 → LJ6_stringSize_0f7a4_16 G x0 1 (-10) 1 S I R Q) ∧ (¬ (x0 < 0) → LJ6_stringSize_0f7a4_16 G (w32 (-x0)) 0 (-10) 1 S I R Q))) : CI G MJ6_stringSize_0f7a4 [vI x0] S I R Q := by
  show E G MJ6_stringSize_0f7a4 0 [(0, vI x0)] [] S I R (qI Q)
  refine e_iconst dJ6_stringSize_0f7a4_0 (by unfold InR; decide) ?_
  refine e_istore_n (ls2 := [(1, vI 1), (0, vI x0)]) dJ6_stringSize_0f7a4_1 (by decide) rfl ?_
  refine e_iload_n 1 dJ6_stringSize_0f7a4_2 rfl ?_
  refine e_if_lt (tgt := 11) dJ6_stringSize_0f7a4_3 (by decide) (fun c => ?_) (fun c => ?_)
  · replace h := h.1 c
    refine e_bipush (x := (-10)) dJ6_stringSize_0f7a4_11 ⟨by decide +kernel, by unfold InR; decide⟩ ?_
    refine e_istore_n (ls2 := [(2, vI (-10)), (1, vI 1), (0, vI x0)]) dJ6_stringSize_0f7a4_13 (by decide) rfl ?_
    refine e_iconst dJ6_stringSize_0f7a4_14 (by unfold InR; decide) ?_
    refine e_istore_n (ls2 := [(3, vI 1), (2, vI (-10)), (1, vI 1), (0, vI x0)]) dJ6_stringSize_0f7a4_15 (by decide) rfl ?_
    exact e_sub (ls2 := [(0, vI x0), (1, vI 1), (2, vI (-10)), (3, vI 1)]) [3, 2, 1, 0] rfl h
  · replace h := h.2 c
    refine e_iconst dJ6_stringSize_0f7a4_6 (by unfold InR; decide) ?_
    refine e_istore_n (ls2 := [(1, vI 0), (0, vI x0)]) dJ6_stringSize_0f7a4_7 (by decide) rfl ?_
    refine e_iload_n 1 dJ6_stringSize_0f7a4_8 rfl ?_
    refine e_ineg dJ6_stringSize_0f7a4_9 ?_
    refine e_istore_n (ls2 := [(0, vI (w32 (-x0))), (1, vI 0)]) dJ6_stringSize_0f7a4_10 (by decide) rfl ?_
    refine e_bipush (x := (-10)) dJ6_stringSize_0f7a4_11 ⟨by decide +kernel, by unfold InR; decide⟩ ?_
    refine e_istore_n (ls2 := [(2, vI (-10)), (0, vI (w32 (-x0))), (1, vI 0)]) dJ6_stringSize_0f7a4_13 (by decide) rfl ?_
    refine e_iconst dJ6_stringSize_0f7a4_14 (by unfold InR; decide) ?_
    refine e_istore_n (ls2 := [(3, vI 1), (2, vI (-10)), (0, vI (w32 (-x0))), (1, vI 0)]) dJ6_stringSize_0f7a4_15 (by decide) rfl ?_
    exact e_sub (ls2 := [(0, vI (w32 (-x0))), (1, vI 0), (2, vI (-10)), (3, vI 1)]) [2, 3, 1, 0] rfl h
set_option maxRecDepth 100000 in
set_option maxHeartbeats 4000000 in
theorem bJ6_stringSize_0f7a4_16 {G : Gl} {S : Sh} {I : MI} {R : MR} {Q : Sh → MI → MR → Int → Prop} {x0 : Int} {x1 : Int} {x2 : Int} {x3 : Int} (h : ((10 ≤ x3 → Q S I R (w32 (10 + x1))) ∧ (¬ (10 ≤ x3) → ((x0 ≤ x2 → LJ6_stringSize_0f7a4_16 G x0 x1 (w32 (10 * x2)) (w32 (x3 + 1)) S I R Q) ∧ (¬ (x0 ≤ x2) → Q S I R (w32 (x3 + x1))))))) : LJ6_stringSize_0f7a4_16 G x0 x1 x2 x3 S I R Q := by
  show E G MJ6_stringSize_0f7a4 16 [(0, vI x0), (1, vI x1), (2, vI x2), (3, vI x3)] [] S I R (qI Q)
  refine e_iload_n 3 dJ6_stringSize_0f7a4_16 rfl ?_
  refine e_bipush (x := 10) dJ6_stringSize_0f7a4_17 ⟨by decide +kernel, by unfold InR; decide⟩ ?_
  refine e_icmp_ge (tgt := 42) dJ6_stringSize_0f7a4_19 (by decide) (fun c => ?_) (fun c => ?_)
  · replace h := h.1 c
    refine e_bipush (x := 10) dJ6_stringSize_0f7a4_42 ⟨by decide +kernel, by unfold InR; decide⟩ ?_
    refine e_iload_n 1 dJ6_stringSize_0f7a4_44 rfl ?_
    refine e_iadd dJ6_stringSize_0f7a4_45 ?_
    exact e_ireturn dJ6_stringSize_0f7a4_46 rfl ⟨_, rfl, h⟩
  · replace h := h.2 c
    refine e_iload_n 0 dJ6_stringSize_0f7a4_22 rfl ?_
    refine e_iload_n 2 dJ6_stringSize_0f7a4_23 rfl ?_
    refine e_icmp_le (tgt := 31) dJ6_stringSize_0f7a4_24 (by decide) (fun c => ?_) (fun c => ?_)
    · replace h := h.1 c
      refine e_bipush (x := 10) dJ6_stringSize_0f7a4_31 ⟨by decide +kernel, by unfold InR; decide⟩ ?_
      refine e_iload_n 2 dJ6_stringSize_0f7a4_33 rfl ?_
      refine e_imul dJ6_stringSize_0f7a4_34 ?_
      refine e_istore_n (ls2 := [(2, vI (w32 (10 * x2))), (0, vI x0), (1, vI x1), (3, vI x3)]) dJ6_stringSize_0f7a4_35 (by decide) rfl ?_
      refine e_iinc (ls2 := [(3, vI (w32 (x3 + 1))), (2, vI (w32 (10 * x2))), (0, vI x0), (1, vI x1)]) 3 dJ6_stringSize_0f7a4_36 rfl (by decide) rfl ?_
      refine e_goto (tgt := 16) dJ6_stringSize_0f7a4_39 (by decide) ?_
      exact e_sub (ls2 := [(0, vI x0), (1, vI x1), (2, vI (w32 (10 * x2))), (3, vI (w32 (x3 + 1)))]) [2, 3, 1, 0] rfl h
    · replace h := h.2 c
      refine e_iload_n 3 dJ6_stringSize_0f7a4_27 rfl ?_
      refine e_iload_n 1 dJ6_stringSize_0f7a4_28 rfl ?_
      refine e_iadd dJ6_stringSize_0f7a4_29 ?_
      exact e_ireturn dJ6_stringSize_0f7a4_30 rfl ⟨_, rfl, h⟩

set_option maxRecDepth 100000 in
set_option maxHeartbeats 4000000 in
theorem bJ5_append_c97b9 {G : Gl} {S : Sh} {I : MI} {R : MR} {Q : Sh → MI → MR → Nat → Prop} {x0 : Nat} {x1 : Int} (h : (sT S x0 = 11 ∧ (CI G MJ6_stringSize_0f7a4 [vI x1] S I R (fun S7 I7 R7 x7_ => (sT S7 x0 = 11 ∧ (CV G MJ5_ensureCapacityInternal_d00df [vR x0, vI (w32 ((I x0 3) + x7_))] S7 I7 R7 (fun S14 I14 R14 => (sT S14 x0 = 11 ∧ ((pJ5_isLatin1_aae02 S14 x0) ∧ (((vJ5_isLatin1_aae02 I14 x0) = 0 → False) ∧ (¬ ((vJ5_isLatin1_aae02 I14 x0) = 0) → (CI G MJ6_getChars_ba4f3 [vI x1, vI (w32 ((I x0 3) + x7_)), vR (R14 x0 0)] S14 I14 R14 (fun S30 I30 R30 x30_ => (sT S30 x0 = 11 ∧ (∀ I50, I50 = up2 I30 x0 3 (w32 ((I x0 3) + x7_)) → Q S30 I50 R30 x0))))))))))))))) : CR G MJ5_append_c97b9 [vR x0, vI x1] S I R Q := by
  show E G MJ5_append_c97b9 0 [(0, vR x0), (1, vI x1)] [] S I R (qR Q)
  refine e_aload_n 0 dJ5_append_c97b9_0 rfl ?_
  have o1 := h.1
  replace h := h.2
  refine e_getI dJ5_append_c97b9_1 flJ5_79 rfl o1 ?_
  refine e_istore_n (ls2 := [(2, vI (I x0 3)), (0, vR x0), (1, vI x1)]) dJ5_append_c97b9_4 (by decide) rfl ?_
  refine e_iload_n 0 dJ5_append_c97b9_5 rfl ?_
  refine e_iload_n 2 dJ5_append_c97b9_6 rfl ?_
  refine i_SI (μ' := MJ6_stringSize_0f7a4) (as := [vI x1]) (st := [vI (I x0 3)]) rfl dJ5_append_c97b9_7 mOKJ6_stringSize_0f7a4 ⟨mlJ5_245, stJ6_stringSize_0f7a4⟩ (by decide) (Nat.le_of_ble_eq_true rfl) rfl (Nat.le_of_ble_eq_true rfl) (CI.mono h ?_)
  clear h
  intro S7 I7 R7 x7_ h
  refine e_iadd dJ5_append_c97b9_10 ?_
  refine e_istore_n (ls2 := [(3, vI (w32 ((I x0 3) + x7_))), (2, vI (I x0 3)), (0, vR x0), (1, vI x1)]) dJ5_append_c97b9_11 (by decide) rfl ?_
  refine e_aload_n 2 dJ5_append_c97b9_12 rfl ?_
  refine e_iload_n 0 dJ5_append_c97b9_13 rfl ?_
  have o2 := h.1
  replace h := h.2
  refine i_VUV (μ' := MJ5_ensureCapacityInternal_d00df) (r := x0) (as := [vI (w32 ((I x0 3) + x7_))]) (st := []) rfl dJ5_append_c97b9_14 mOKJ5_ensureCapacityInternal_d00df rfl ⟨mlJ5_100, imJ5_ensureCapacityInternal_d00df, suJ5_ensureCapacityInternal_d00df⟩ (by decide) (Nat.le_of_ble_eq_true rfl) rfl (Nat.le_of_ble_eq_true rfl) o2 (CV.mono h ?_)
  clear h
  intro S14 I14 R14 h
  refine e_aload_n 2 dJ5_append_c97b9_17 rfl ?_
  have o3 := h.1
  replace h := h.2
  have o4 := h.1
  replace h := h.2
  refine i_VUI (μ' := MJ5_isLatin1_aae02) (r := x0) (as := []) (st := []) rfl dJ5_append_c97b9_18 mOKJ5_isLatin1_aae02 rfl ⟨mlJ5_83, imJ5_isLatin1_aae02, suJ5_isLatin1_aae02⟩ (by decide) (Nat.le_of_ble_eq_true rfl) rfl (Nat.le_of_ble_eq_true rfl) o3 (sJ5_isLatin1_aae02 o4 ?_)
  refine e_if_eq (tgt := 37) dJ5_append_c97b9_21 (by decide) (fun c => ?_) (fun c => ?_)
  · replace h := h.1 c
    refine e_iload_n 3 dJ5_append_c97b9_37 rfl ?_
    refine e_iload_n 1 dJ5_append_c97b9_38 rfl ?_
    refine e_iload_n 0 dJ5_append_c97b9_39 rfl ?_
    refine e_aload_n 2 dJ5_append_c97b9_40 rfl ?_
    refine e_getR dJ5_append_c97b9_41 flJ5_15 rfl o3 ?_
    exact h.elim
  · replace h := h.2 c
    refine e_iload_n 3 dJ5_append_c97b9_24 rfl ?_
    refine e_iload_n 0 dJ5_append_c97b9_25 rfl ?_
    refine e_aload_n 2 dJ5_append_c97b9_26 rfl ?_
    refine e_getR dJ5_append_c97b9_27 flJ5_15 rfl o3 ?_
    refine i_SI (μ' := MJ6_getChars_ba4f3) (as := [vI x1, vI (w32 ((I x0 3) + x7_)), vR (R14 x0 0)]) (st := []) rfl dJ5_append_c97b9_30 mOKJ6_getChars_ba4f3 ⟨mlJ5_248, stJ6_getChars_ba4f3⟩ (by decide) (Nat.le_of_ble_eq_true rfl) rfl (Nat.le_of_ble_eq_true rfl) (CI.mono h ?_)
    clear h
    intro S30 I30 R30 x30_ h
    refine e_pop dJ5_append_c97b9_33 rfl ?_
    refine e_goto (tgt := 48) dJ5_append_c97b9_34 (by decide) ?_
    refine e_aload_n 2 dJ5_append_c97b9_48 rfl ?_
    refine e_iload_n 0 dJ5_append_c97b9_49 rfl ?_
    have o5 := h.1
    replace h := h.2
    obtain ⟨I50, eI50⟩ : ∃ z : MI, z = up2 I30 x0 3 (w32 ((I x0 3) + x7_)) := ⟨_, rfl⟩
    replace h := h I50 eI50
    refine e_putI dJ5_append_c97b9_50 flJ5_79 rfl (Or.inl rfl) o5 (eqI eI50 ?_)
    refine e_aload_n 2 dJ5_append_c97b9_53 rfl ?_
    exact e_areturn (C := "") dJ5_append_c97b9_54 ⟨_, rfl⟩ ⟨_, rfl, h⟩

def vJ5_getValue_6d5f1 (R : MR) (x0 : Nat) : Nat := (R x0 0)
def pJ5_getValue_6d5f1 (S : Sh) (x0 : Nat) : Prop := (sT S x0 = 11 ∧ True)
set_option maxRecDepth 100000 in
set_option maxHeartbeats 4000000 in
theorem sJ5_getValue_6d5f1 {G : Gl} {S : Sh} {I : MI} {R : MR} {Q : Sh → MI → MR → Nat → Prop} {x0 : Nat} (hp : pJ5_getValue_6d5f1 S x0) (hq : Q S I R (vJ5_getValue_6d5f1 R x0)) : CR G MJ5_getValue_6d5f1 [vR x0] S I R Q := by
  show E G MJ5_getValue_6d5f1 0 [(0, vR x0)] [] S I R (qR Q)
  unfold vJ5_getValue_6d5f1 at hq
  unfold pJ5_getValue_6d5f1 at hp
  refine e_aload_n 0 dJ5_getValue_6d5f1_0 rfl ?_
  have o1 := hp.1
  replace hp := hp.2
  refine e_getR dJ5_getValue_6d5f1_1 flJ5_15 rfl o1 ?_
  exact e_areturnA dJ5_getValue_6d5f1_4 ⟨_, rfl⟩ ⟨_, rfl, hq⟩

def vJ6_bitCount_0f7a4  (x0 : Int) : Int := (iand (w32 ((w32 ((iand (w32 ((w32 ((iand (w32 (x0 - (iand (iushr x0 1) 1431655765))) 858993459) + (iand (iushr (w32 (x0 - (iand (iushr x0 1) 1431655765))) 2) 858993459))) + (iushr (w32 ((iand (w32 (x0 - (iand (iushr x0 1) 1431655765))) 858993459) + (iand (iushr (w32 (x0 - (iand (iushr x0 1) 1431655765))) 2) 858993459))) 4))) 252645135) + (iushr (iand (w32 ((w32 ((iand (w32 (x0 - (iand (iushr x0 1) 1431655765))) 858993459) + (iand (iushr (w32 (x0 - (iand (iushr x0 1) 1431655765))) 2) 858993459))) + (iushr (w32 ((iand (w32 (x0 - (iand (iushr x0 1) 1431655765))) 858993459) + (iand (iushr (w32 (x0 - (iand (iushr x0 1) 1431655765))) 2) 858993459))) 4))) 252645135) 8))) + (iushr (w32 ((iand (w32 ((w32 ((iand (w32 (x0 - (iand (iushr x0 1) 1431655765))) 858993459) + (iand (iushr (w32 (x0 - (iand (iushr x0 1) 1431655765))) 2) 858993459))) + (iushr (w32 ((iand (w32 (x0 - (iand (iushr x0 1) 1431655765))) 858993459) + (iand (iushr (w32 (x0 - (iand (iushr x0 1) 1431655765))) 2) 858993459))) 4))) 252645135) + (iushr (iand (w32 ((w32 ((iand (w32 (x0 - (iand (iushr x0 1) 1431655765))) 858993459) + (iand (iushr (w32 (x0 - (iand (iushr x0 1) 1431655765))) 2) 858993459))) + (iushr (w32 ((iand (w32 (x0 - (iand (iushr x0 1) 1431655765))) 858993459) + (iand (iushr (w32 (x0 - (iand (iushr x0 1) 1431655765))) 2) 858993459))) 4))) 252645135) 8))) 16))) 63)
set_option maxRecDepth 100000 in
set_option maxHeartbeats 4000000 in
theorem sJ6_bitCount_0f7a4 {G : Gl} {S : Sh} {I : MI} {R : MR} {Q : Sh → MI → MR → Int → Prop} {x0 : Int} (hq : Q S I R (vJ6_bitCount_0f7a4 x0)) : CI G MJ6_bitCount_0f7a4 [vI x0] S I R Q := by
  show E G MJ6_bitCount_0f7a4 0 [(0, vI x0)] [] S I R (qI Q)
  unfold vJ6_bitCount_0f7a4 at hq
  refine e_iload_n 0 dJ6_bitCount_0f7a4_0 rfl ?_
  refine e_iload_n 0 dJ6_bitCount_0f7a4_1 rfl ?_
  refine e_iconst dJ6_bitCount_0f7a4_2 (by unfold InR; decide) ?_
  refine e_iushr dJ6_bitCount_0f7a4_3 ?_
  refine e_ldcw (x := 1431655765) dJ6_bitCount_0f7a4_4 cnJ6_265 (by unfold InR; decide) ?_
  refine e_iand dJ6_bitCount_0f7a4_7 ?_
  refine e_isub dJ6_bitCount_0f7a4_8 ?_
  refine e_istore_n (ls2 := [(0, vI (w32 (x0 - (iand (iushr x0 1) 1431655765))))]) dJ6_bitCount_0f7a4_9 (by decide) rfl ?_
  refine e_iload_n 0 dJ6_bitCount_0f7a4_10 rfl ?_
  refine e_ldcw (x := 858993459) dJ6_bitCount_0f7a4_11 cnJ6_266 (by unfold InR; decide) ?_
  refine e_iand dJ6_bitCount_0f7a4_14 ?_
  refine e_iload_n 0 dJ6_bitCount_0f7a4_15 rfl ?_
  refine e_iconst dJ6_bitCount_0f7a4_16 (by unfold InR; decide) ?_
  refine e_iushr dJ6_bitCount_0f7a4_17 ?_
  refine e_ldcw (x := 858993459) dJ6_bitCount_0f7a4_18 cnJ6_266 (by unfold InR; decide) ?_
  refine e_iand dJ6_bitCount_0f7a4_21 ?_
  refine e_iadd dJ6_bitCount_0f7a4_22 ?_
  refine e_istore_n (ls2 := [(0, vI (w32 ((iand (w32 (x0 - (iand (iushr x0 1) 1431655765))) 858993459) + (iand (iushr (w32 (x0 - (iand (iushr x0 1) 1431655765))) 2) 858993459))))]) dJ6_bitCount_0f7a4_23 (by decide) rfl ?_
  refine e_iload_n 0 dJ6_bitCount_0f7a4_24 rfl ?_
  refine e_iload_n 0 dJ6_bitCount_0f7a4_25 rfl ?_
  refine e_iconst dJ6_bitCount_0f7a4_26 (by unfold InR; decide) ?_
  refine e_iushr dJ6_bitCount_0f7a4_27 ?_
  refine e_iadd dJ6_bitCount_0f7a4_28 ?_
  refine e_ldcw (x := 252645135) dJ6_bitCount_0f7a4_29 cnJ6_267 (by unfold InR; decide) ?_
  refine e_iand dJ6_bitCount_0f7a4_32 ?_
  refine e_istore_n (ls2 := [(0, vI (iand (w32 ((w32 ((iand (w32 (x0 - (iand (iushr x0 1) 1431655765))) 858993459) + (iand (iushr (w32 (x0 - (iand (iushr x0 1) 1431655765))) 2) 858993459))) + (iushr (w32 ((iand (w32 (x0 - (iand (iushr x0 1) 1431655765))) 858993459) + (iand (iushr (w32 (x0 - (iand (iushr x0 1) 1431655765))) 2) 858993459))) 4))) 252645135))]) dJ6_bitCount_0f7a4_33 (by decide) rfl ?_
  refine e_iload_n 0 dJ6_bitCount_0f7a4_34 rfl ?_
  refine e_iload_n 0 dJ6_bitCount_0f7a4_35 rfl ?_
  refine e_bipush (x := 8) dJ6_bitCount_0f7a4_36 ⟨by decide +kernel, by unfold InR; decide⟩ ?_
  refine e_iushr dJ6_bitCount_0f7a4_38 ?_
  refine e_iadd dJ6_bitCount_0f7a4_39 ?_
  refine e_istore_n (ls2 := [(0, vI (w32 ((iand (w32 ((w32 ((iand (w32 (x0 - (iand (iushr x0 1) 1431655765))) 858993459) + (iand (iushr (w32 (x0 - (iand (iushr x0 1) 1431655765))) 2) 858993459))) + (iushr (w32 ((iand (w32 (x0 - (iand (iushr x0 1) 1431655765))) 858993459) + (iand (iushr (w32 (x0 - (iand (iushr x0 1) 1431655765))) 2) 858993459))) 4))) 252645135) + (iushr (iand (w32 ((w32 ((iand (w32 (x0 - (iand (iushr x0 1) 1431655765))) 858993459) + (iand (iushr (w32 (x0 - (iand (iushr x0 1) 1431655765))) 2) 858993459))) + (iushr (w32 ((iand (w32 (x0 - (iand (iushr x0 1) 1431655765))) 858993459) + (iand (iushr (w32 (x0 - (iand (iushr x0 1) 1431655765))) 2) 858993459))) 4))) 252645135) 8))))]) dJ6_bitCount_0f7a4_40 (by decide) rfl ?_
  refine e_iload_n 0 dJ6_bitCount_0f7a4_41 rfl ?_
  refine e_iload_n 0 dJ6_bitCount_0f7a4_42 rfl ?_
  refine e_bipush (x := 16) dJ6_bitCount_0f7a4_43 ⟨by decide +kernel, by unfold InR; decide⟩ ?_
  refine e_iushr dJ6_bitCount_0f7a4_45 ?_
  refine e_iadd dJ6_bitCount_0f7a4_46 ?_
  refine e_istore_n (ls2 := [(0, vI (w32 ((w32 ((iand (w32 ((w32 ((iand (w32 (x0 - (iand (iushr x0 1) 1431655765))) 858993459) + (iand (iushr (w32 (x0 - (iand (iushr x0 1) 1431655765))) 2) 858993459))) + (iushr (w32 ((iand (w32 (x0 - (iand (iushr x0 1) 1431655765))) 858993459) + (iand (iushr (w32 (x0 - (iand (iushr x0 1) 1431655765))) 2) 858993459))) 4))) 252645135) + (iushr (iand (w32 ((w32 ((iand (w32 (x0 - (iand (iushr x0 1) 1431655765))) 858993459) + (iand (iushr (w32 (x0 - (iand (iushr x0 1) 1431655765))) 2) 858993459))) + (iushr (w32 ((iand (w32 (x0 - (iand (iushr x0 1) 1431655765))) 858993459) + (iand (iushr (w32 (x0 - (iand (iushr x0 1) 1431655765))) 2) 858993459))) 4))) 252645135) 8))) + (iushr (w32 ((iand (w32 ((w32 ((iand (w32 (x0 - (iand (iushr x0 1) 1431655765))) 858993459) + (iand (iushr (w32 (x0 - (iand (iushr x0 1) 1431655765))) 2) 858993459))) + (iushr (w32 ((iand (w32 (x0 - (iand (iushr x0 1) 1431655765))) 858993459) + (iand (iushr (w32 (x0 - (iand (iushr x0 1) 1431655765))) 2) 858993459))) 4))) 252645135) + (iushr (iand (w32 ((w32 ((iand (w32 (x0 - (iand (iushr x0 1) 1431655765))) 858993459) + (iand (iushr (w32 (x0 - (iand (iushr x0 1) 1431655765))) 2) 858993459))) + (iushr (w32 ((iand (w32 (x0 - (iand (iushr x0 1) 1431655765))) 858993459) + (iand (iushr (w32 (x0 - (iand (iushr x0 1) 1431655765))) 2) 858993459))) 4))) 252645135) 8))) 16))))]) dJ6_bitCount_0f7a4_47 (by decide) rfl ?_
  refine e_iload_n 0 dJ6_bitCount_0f7a4_48 rfl ?_
  refine e_bipush (x := 63) dJ6_bitCount_0f7a4_49 ⟨by decide +kernel, by unfold InR; decide⟩ ?_
  refine e_iand dJ6_bitCount_0f7a4_51 ?_
  exact e_ireturn dJ6_bitCount_0f7a4_52 rfl ⟨_, rfl, hq⟩

def vJ4_length_8abf5 (I : MI) (x0 : Nat) : Int := (vJ5_length_8abf5 I x0)
def pJ4_length_8abf5 (S : Sh) (x0 : Nat) : Prop := (sT S x0 = 11 ∧ ((pJ5_length_8abf5 S x0) ∧ True))
set_option maxRecDepth 100000 in
set_option maxHeartbeats 4000000 in
theorem sJ4_length_8abf5 {G : Gl} {S : Sh} {I : MI} {R : MR} {Q : Sh → MI → MR → Int → Prop} {x0 : Nat} (hp : pJ4_length_8abf5 S x0) (hq : Q S I R (vJ4_length_8abf5 I x0)) : CI G MJ4_length_8abf5 [vR x0] S I R Q := by
  show E G MJ4_length_8abf5 0 [(0, vR x0)] [] S I R (qI Q)
  unfold vJ4_length_8abf5 at hq
  unfold pJ4_length_8abf5 at hp
  refine e_aload_n 0 dJ4_length_8abf5_0 rfl ?_
  have o1 := hp.1
  replace hp := hp.2
  have o2 := hp.1
  replace hp := hp.2
  refine i_SUI (μ' := MJ5_length_8abf5) (r := x0) (as := []) (st := []) rfl dJ4_length_8abf5_1 mOKJ5_length_8abf5 (by decide) ⟨mlJ4_343, imJ5_length_8abf5, ssJ5_length_8abf5⟩ (by decide) (Nat.le_of_ble_eq_true rfl) rfl (Nat.le_of_ble_eq_true rfl) rfl o1 (sJ5_length_8abf5 o2 ?_)
  exact e_ireturn dJ4_length_8abf5_4 rfl ⟨_, rfl, hq⟩

set_option maxRecDepth 100000 in
set_option maxHeartbeats 4000000 in
theorem bJ7_checkLength_df160 {G : Gl} {S : Sh} {I : MI} {R : MR} {Q : Sh → MI → MR → Prop} {x0 : Int} {x1 : Int} (h : ((x0 ≤ x1 → Q S I R) ∧ (¬ (x0 ≤ x1) → False))) : CV G MJ7_checkLength_df160 [vI x0, vI x1] S I R Q := by
  show E G MJ7_checkLength_df160 0 [(0, vI x0), (1, vI x1)] [] S I R (qV Q)
  refine e_iload_n 1 dJ7_checkLength_df160_0 rfl ?_
  refine e_iload_n 0 dJ7_checkLength_df160_1 rfl ?_
  refine e_icmp_ge (tgt := 37) dJ7_checkLength_df160_2 (by decide) (fun c => ?_) (fun c => ?_)
  · replace h := h.1 c
    exact e_return dJ7_checkLength_df160_37 rfl ⟨rfl, h⟩
  · replace h := h.2 c
    exact h.elim

set_option maxRecDepth 100000 in
set_option maxHeartbeats 4000000 in
theorem bJ7_copyOfRangeByte_39247 {G : Gl} {S : Sh} {I : MI} {R : MR} {Q : Sh → MI → MR → Nat → Prop} {x0 : Nat} {x1 : Int} {x2 : Int} (h : (CV G MJ7_checkLength_df160 [vI x1, vI x2] S I R (fun S2 I2 R2 => (∃ n10 : Nat, (w32 (x2 - x1)) = (n10 : Int) ∧ n10 ≤ 100000000 ∧ (∀ S10 I10 R10, S10 = shNew S2 22 n10 n10 → I10 = mNew I2 (sN S2) 0 → R10 = mNew R2 (sN S2) 0 → (21 ≤ sT S10 x0 ∧ (sT S10 x0 = 22 ∧ (sT S10 (sN S2) = 22 ∧ ((0 : Int) ≤ x1 ∧ ((0 : Int) ≤ 0 ∧ ((0 : Int) ≤ (min (w32 ((sL S10 x0 : Int) - x1)) (w32 (x2 - x1))) ∧ (x1 + (min (w32 ((sL S10 x0 : Int) - x1)) (w32 (x2 - x1))) ≤ (sL S10 x0 : Int) ∧ (0 + (min (w32 ((sL S10 x0 : Int) - x1)) (w32 (x2 - x1))) ≤ (sL S10 (sN S2) : Int) ∧ (∀ I27, I27 = up1 I10 (sN S2) (va_cpy (I10 x0) (I10 (sN S2)) (Int.toNat x1) (Int.toNat 0) (Int.toNat (min (w32 ((sL S10 x0 : Int) - x1)) (w32 (x2 - x1))))) → Q S10 I27 R10 (sN S2))))))))))))))) : CR G MJ7_copyOfRangeByte_39247 [vR x0, vI x1, vI x2] S I R Q := by
  show E G MJ7_copyOfRangeByte_39247 0 [(0, vR x0), (1, vI x1), (2, vI x2)] [] S I R (qR Q)
  refine e_iload_n 1 dJ7_copyOfRangeByte_39247_0 rfl ?_
  refine e_iload_n 2 dJ7_copyOfRangeByte_39247_1 rfl ?_
  refine i_SV (μ' := MJ7_checkLength_df160) (as := [vI x1, vI x2]) (st := []) rfl dJ7_copyOfRangeByte_39247_2 mOKJ7_checkLength_df160 ⟨mlJ7_343, stJ7_checkLength_df160⟩ (by decide) (Nat.le_of_ble_eq_true rfl) rfl (Nat.le_of_ble_eq_true rfl) (CV.mono h ?_)
  clear h
  intro S2 I2 R2 h
  refine e_iload_n 2 dJ7_copyOfRangeByte_39247_5 rfl ?_
  refine e_iload_n 1 dJ7_copyOfRangeByte_39247_6 rfl ?_
  refine e_isub dJ7_copyOfRangeByte_39247_7 ?_
  refine e_istore_n (ls2 := [(3, vI (w32 (x2 - x1))), (0, vR x0), (1, vI x1), (2, vI x2)]) dJ7_copyOfRangeByte_39247_8 (by decide) rfl ?_
  refine e_iload_n 0 dJ7_copyOfRangeByte_39247_9 rfl ?_
  obtain ⟨n10, h0, h1, h⟩ := h
  obtain ⟨S10, eS10⟩ : ∃ z : Sh, z = shNew S2 22 n10 n10 := ⟨_, rfl⟩
  obtain ⟨I10, eI10⟩ : ∃ z : MI, z = mNew I2 (sN S2) 0 := ⟨_, rfl⟩
  obtain ⟨R10, eR10⟩ : ∃ z : MR, z = mNew R2 (sN S2) 0 := ⟨_, rfl⟩
  replace h := h S10 I10 R10 eS10 eI10 eR10
  refine e_newa (t := 22) (n := n10) dJ7_copyOfRangeByte_39247_10 (Or.inr ⟨rfl, rfl⟩) acbyte h0 h1 (eqS eS10 (eqI eI10 (eqR eR10 ?_)))
  refine e_astore (ls2 := [(4, vR (sN S2)), (3, vI (w32 (x2 - x1))), (0, vR x0), (1, vI x1), (2, vI x2)]) dJ7_copyOfRangeByte_39247_12 (by decide) rfl ?_
  refine e_aload_n 2 dJ7_copyOfRangeByte_39247_14 rfl ?_
  refine e_iload_n 3 dJ7_copyOfRangeByte_39247_15 rfl ?_
  refine e_aload 0 dJ7_copyOfRangeByte_39247_16 rfl ?_
  refine e_iconst dJ7_copyOfRangeByte_39247_18 (by unfold InR; decide) ?_
  refine e_aload_n 2 dJ7_copyOfRangeByte_39247_19 rfl ?_
  have o1 := h.1
  replace h := h.2
  refine e_alen dJ7_copyOfRangeByte_39247_20 o1 ?_
  refine e_iload_n 3 dJ7_copyOfRangeByte_39247_21 rfl ?_
  refine e_isub dJ7_copyOfRangeByte_39247_22 ?_
  refine e_iload_n 1 dJ7_copyOfRangeByte_39247_23 rfl ?_
  refine e_mmin dJ7_copyOfRangeByte_39247_24 mmJ7_304 mxmin (by decide) (Nat.le_of_ble_eq_true rfl) ?_
  have o2 := h.1
  replace h := h.2
  have o3 := h.1
  replace h := h.2
  have o4 := h.1
  replace h := h.2
  have o5 := h.1
  replace h := h.2
  have o6 := h.1
  replace h := h.2
  have o7 := h.1
  replace h := h.2
  have o8 := h.1
  replace h := h.2
  obtain ⟨I27, eI27⟩ : ∃ z : MI, z = up1 I10 (sN S2) (va_cpy (I10 x0) (I10 (sN S2)) (Int.toNat x1) (Int.toNat 0) (Int.toNat (min (w32 ((sL S10 x0 : Int) - x1)) (w32 (x2 - x1))))) := ⟨_, rfl⟩
  replace h := h I27 eI27
  refine e_copyB dJ7_copyOfRangeByte_39247_27 ⟨maJ7_150, acp⟩ (by decide) (Nat.le_of_ble_eq_true rfl) o2 o3 o4 o5 o6 o7 o8 (eqI eI27 ?_)
  refine e_aload 0 dJ7_copyOfRangeByte_39247_30 rfl ?_
  exact e_areturnA dJ7_copyOfRangeByte_39247_32 ⟨_, rfl⟩ ⟨_, rfl, h⟩

set_option maxRecDepth 100000 in
set_option maxHeartbeats 4000000 in
theorem bJ7_copyOfRange_39247 {G : Gl} {S : Sh} {I : MI} {R : MR} {Q : Sh → MI → MR → Nat → Prop} {x0 : Nat} {x1 : Int} {x2 : Int} (h : ((x1 ≠ 0 → (CR G MJ7_copyOfRangeByte_39247 [vR x0, vI x1, vI x2] S I R (fun S13 I13 R13 x13_ => Q S13 I13 R13 x13_))) ∧ (¬ (x1 ≠ 0) → (21 ≤ sT S x0 ∧ ((x2 = (sL S x0 : Int) → (sT S x0 = 22 ∧ (∀ S18 I18 R18, S18 = shNew S 22 (sL S x0) (sL S x0) → I18 = mCl I (sN S) x0 → R18 = mNew R (sN S) 0 → (sT S18 (sN S) = 22 ∧ Q S18 I18 R18 (sN S))))) ∧ (¬ (x2 = (sL S x0 : Int)) → (CR G MJ7_copyOfRangeByte_39247 [vR x0, vI x1, vI x2] S I R (fun S13 I13 R13 x13_ => Q S13 I13 R13 x13_)))))))) : CR G MJ7_copyOfRange_39247 [vR x0, vI x1, vI x2] S I R Q := by
  show E G MJ7_copyOfRange_39247 0 [(0, vR x0), (1, vI x1), (2, vI x2)] [] S I R (qR Q)
  refine e_iload_n 1 dJ7_copyOfRange_39247_0 rfl ?_
  refine e_if_ne (tgt := 10) dJ7_copyOfRange_39247_1 (by decide) (fun c => ?_) (fun c => ?_)
  · replace h := h.1 c
    refine e_aload_n 0 dJ7_copyOfRange_39247_10 rfl ?_
    refine e_iload_n 1 dJ7_copyOfRange_39247_11 rfl ?_
    refine e_iload_n 2 dJ7_copyOfRange_39247_12 rfl ?_
    refine i_SR (μ' := MJ7_copyOfRangeByte_39247) (as := [vR x0, vI x1, vI x2]) (st := []) rfl dJ7_copyOfRange_39247_13 mOKJ7_copyOfRangeByte_39247 ⟨mlJ7_339, stJ7_copyOfRangeByte_39247⟩ (by decide) (Nat.le_of_ble_eq_true rfl) rfl (Nat.le_of_ble_eq_true rfl) (CR.mono h ?_)
    clear h
    intro S13 I13 R13 x13_ h
    exact e_areturnA dJ7_copyOfRange_39247_16 ⟨_, rfl⟩ ⟨_, rfl, h⟩
  · replace h := h.2 c
    refine e_iload_n 2 dJ7_copyOfRange_39247_4 rfl ?_
    refine e_aload_n 0 dJ7_copyOfRange_39247_5 rfl ?_
    have o1 := h.1
    replace h := h.2
    refine e_alen dJ7_copyOfRange_39247_6 o1 ?_
    refine e_icmp_eq (tgt := 17) dJ7_copyOfRange_39247_7 (by decide) (fun c => ?_) (fun c => ?_)
    · replace h := h.1 c
      refine e_aload_n 0 dJ7_copyOfRange_39247_17 rfl ?_
      have o2 := h.1
      replace h := h.2
      obtain ⟨S18, eS18⟩ : ∃ z : Sh, z = shNew S 22 (sL S x0) (sL S x0) := ⟨_, rfl⟩
      obtain ⟨I18, eI18⟩ : ∃ z : MI, z = mCl I (sN S) x0 := ⟨_, rfl⟩
      obtain ⟨R18, eR18⟩ : ∃ z : MR, z = mNew R (sN S) 0 := ⟨_, rfl⟩
      replace h := h S18 I18 R18 eS18 eI18 eR18
      refine e_clone dJ7_copyOfRange_39247_18 ⟨mcJ7_310, mclo⟩ (by decide) (Nat.le_of_ble_eq_true rfl) o2 (eqS eS18 (eqI eI18 (eqR eR18 ?_)))
      have o3 := h.1
      replace h := h.2
      refine e_castB dJ7_copyOfRange_39247_21 ⟨clJ7_311, acbyte⟩ o3 ?_
      exact e_areturnA dJ7_copyOfRange_39247_24 ⟨_, rfl⟩ ⟨_, rfl, h⟩
    · replace h := h.2 c
      refine e_aload_n 0 dJ7_copyOfRange_39247_10 rfl ?_
      refine e_iload_n 1 dJ7_copyOfRange_39247_11 rfl ?_
      refine e_iload_n 2 dJ7_copyOfRange_39247_12 rfl ?_
      refine i_SR (μ' := MJ7_copyOfRangeByte_39247) (as := [vR x0, vI x1, vI x2]) (st := []) rfl dJ7_copyOfRange_39247_13 mOKJ7_copyOfRangeByte_39247 ⟨mlJ7_339, stJ7_copyOfRangeByte_39247⟩ (by decide) (Nat.le_of_ble_eq_true rfl) rfl (Nat.le_of_ble_eq_true rfl) (CR.mono h ?_)
      clear h
      intro S13 I13 R13 x13_ h
      exact e_areturnA dJ7_copyOfRange_39247_16 ⟨_, rfl⟩ ⟨_, rfl, h⟩

def LJ0_init_db425_79 (G : Gl) (x0 : Nat) (x3 : Nat) (x4 : Int) (S : Sh) (I : MI) (R : MR) (Q : Sh → MI → MR → Prop) : Prop := E G MJ0_init_db425 79 [(0, vR x0), (3, vR x3), (4, vI x4)] [] S I R (qV Q)
set_option maxRecDepth 100000 in
set_option maxHeartbeats 4000000 in
theorem bJ0_init_db425 {G : Gl} {S : Sh} {I : MI} {R : MR} {Q : Sh → MI → MR → Prop} {x0 : Nat} {x1 : Nat} {x2 : Nat} (h : (sT S x0 ≠ 0 ∧ (sT S x1 = 11 ∧ ((pJ5_getValue_6d5f1 S x1) ∧ ((pJ4_length_8abf5 S x1) ∧ ((pJ5_isLatin1_aae02 S x1) ∧ (((vJ5_isLatin1_aae02 I x1) = 0 → (((I x1 2) = 0 → LJ0_init_db425_79 G x0 (vJ5_getValue_6d5f1 R x1) (vJ4_length_8abf5 I x1) S I R Q) ∧ (¬ ((I x1 2) = 0) → False))) ∧ (¬ ((vJ5_isLatin1_aae02 I x1) = 0) → (sT S x0 = 10 ∧ (∀ I24, I24 = up2 I x0 1 0 → (CR G MJ7_copyOfRange_39247 [vR (vJ5_getValue_6d5f1 R x1), vI 0, vI (vJ4_length_8abf5 I x1)] S I24 R (fun S32 I32 R32 x32_ => (sT S32 x0 = 10 ∧ (∀ R35, R35 = up2 R32 x0 0 x32_ → Q S32 I32 R35)))))))))))))) : CV G MJ0_init_db425 [vR x0, vR x1, vR x2] S I R Q := by
  show E G MJ0_init_db425 0 [(0, vR x0), (1, vR x1), (2, vR x2)] [] S I R (qV Q)
  refine e_aload_n 0 dJ0_init_db425_0 rfl ?_
  have o1 := h.1
  replace h := h.2
  refine e_objI dJ0_init_db425_1 ⟨moJ0_1, oc⟩ (by decide) (Nat.le_of_ble_eq_true rfl) o1 ?_
  refine e_aload_n 1 dJ0_init_db425_4 rfl ?_
  have o2 := h.1
  replace h := h.2
  have o3 := h.1
  replace h := h.2
  refine i_VUR (μ' := MJ5_getValue_6d5f1) (r := x1) (as := []) (st := []) rfl dJ0_init_db425_5 mOKJ5_getValue_6d5f1 rfl ⟨mlJ0_552, imJ5_getValue_6d5f1, suJ5_getValue_6d5f1⟩ (by decide) (Nat.le_of_ble_eq_true rfl) rfl (Nat.le_of_ble_eq_true rfl) o2 (sJ5_getValue_6d5f1 o3 ?_)
  refine e_astore_n (ls2 := [(3, vR (vJ5_getValue_6d5f1 R x1)), (0, vR x0), (1, vR x1), (2, vR x2)]) dJ0_init_db425_8 (by decide) rfl ?_
  refine e_aload_n 2 dJ0_init_db425_9 rfl ?_
  have o4 := h.1
  replace h := h.2
  refine i_VOI (μ' := MJ4_length_8abf5) (r := x1) (as := []) (st := []) rfl dJ0_init_db425_10 mOKJ4_length_8abf5 ⟨rfl, by decide +kernel⟩ vole (by decide) (Nat.le_of_ble_eq_true rfl) rfl (Nat.le_of_ble_eq_true rfl) o2 (sJ4_length_8abf5 o4 ?_)
  refine e_istore (ls2 := [(4, vI (vJ4_length_8abf5 I x1)), (3, vR (vJ5_getValue_6d5f1 R x1)), (0, vR x0), (1, vR x1), (2, vR x2)]) dJ0_init_db425_13 (by decide) rfl ?_
  refine e_aload_n 3 dJ0_init_db425_15 rfl ?_
  have o5 := h.1
  replace h := h.2
  refine i_VUI (μ' := MJ5_isLatin1_aae02) (r := x1) (as := []) (st := []) rfl dJ0_init_db425_16 mOKJ5_isLatin1_aae02 rfl ⟨mlJ0_1047, imJ5_isLatin1_aae02, suJ5_isLatin1_aae02⟩ (by decide) (Nat.le_of_ble_eq_true rfl) rfl (Nat.le_of_ble_eq_true rfl) o2 (sJ5_isLatin1_aae02 o5 ?_)
  refine e_if_eq (tgt := 41) dJ0_init_db425_19 (by decide) (fun c => ?_) (fun c => ?_)
  · replace h := h.1 c
    refine e_getsC dJ0_init_db425_41 fsJ0_38 ?_
    refine e_if_eq (tgt := 79) dJ0_init_db425_44 (by decide) (fun c => absurd c (by decide)) (fun _ => ?_)
    refine e_aload_n 3 dJ0_init_db425_47 rfl ?_
    refine e_getI dJ0_init_db425_48 flJ0_1048 rfl o2 ?_
    refine e_if_eq (tgt := 79) dJ0_init_db425_51 (by decide) (fun c => ?_) (fun c => ?_)
    · replace h := h.1 c
      exact e_sub (ls2 := [(0, vR x0), (3, vR (vJ5_getValue_6d5f1 R x1)), (4, vI (vJ4_length_8abf5 I x1))]) [2, 1, 0] rfl h
    · replace h := h.2 c
      refine e_aload_n 2 dJ0_init_db425_54 rfl ?_
      refine e_aload_n 1 dJ0_init_db425_55 rfl ?_
      refine e_iconst dJ0_init_db425_56 (by unfold InR; decide) ?_
      refine e_iload 0 dJ0_init_db425_57 rfl ?_
      exact h.elim
  · replace h := h.2 c
    refine e_aload_n 2 dJ0_init_db425_22 rfl ?_
    refine e_iconst dJ0_init_db425_23 (by unfold InR; decide) ?_
    have o6 := h.1
    replace h := h.2
    obtain ⟨I24, eI24⟩ : ∃ z : MI, z = up2 I x0 1 0 := ⟨_, rfl⟩
    replace h := h I24 eI24
    refine e_putB dJ0_init_db425_24 flJ0_15 rfl (Or.inr ⟨rfl, rfl, rfl⟩) o6 (by decide) (eqI eI24 ?_)
    refine e_aload_n 2 dJ0_init_db425_27 rfl ?_
    refine e_aload_n 1 dJ0_init_db425_28 rfl ?_
    refine e_iconst dJ0_init_db425_29 (by unfold InR; decide) ?_
    refine e_iload 0 dJ0_init_db425_30 rfl ?_
    refine i_SR (μ' := MJ7_copyOfRange_39247) (as := [vR (vJ5_getValue_6d5f1 R x1), vI 0, vI (vJ4_length_8abf5 I x1)]) (st := [vR x0]) rfl dJ0_init_db425_32 mOKJ7_copyOfRange_39247 ⟨mlJ0_54, stJ7_copyOfRange_39247⟩ (by decide) (Nat.le_of_ble_eq_true rfl) rfl (Nat.le_of_ble_eq_true rfl) (CR.mono h ?_)
    clear h
    intro S32 I32 R32 x32_ h
    have o7 := h.1
    replace h := h.2
    obtain ⟨R35, eR35⟩ : ∃ z : MR, z = up2 R32 x0 0 x32_ := ⟨_, rfl⟩
    replace h := h R35 eR35
    refine e_putR dJ0_init_db425_35 flJ0_9 rfl (Or.inr ⟨rfl, rfl, rfl⟩) o7 (eqR eR35 ?_)
    refine e_goto (tgt := 97) dJ0_init_db425_38 (by decide) ?_
    exact e_return dJ0_init_db425_97 rfl ⟨rfl, h⟩
set_option maxRecDepth 100000 in
set_option maxHeartbeats 4000000 in
theorem bJ0_init_db425_79 {G : Gl} {S : Sh} {I : MI} {R : MR} {Q : Sh → MI → MR → Prop} {x0 : Nat} {x3 : Nat} {x4 : Int} (h : (sT S x0 = 10 ∧ (∀ I81, I81 = up2 I x0 1 1 → (CR G MJ7_copyOfRange_39247 [vR x3, vI 0, vI (ishl x4 1)] S I81 R (fun S91 I91 R91 x91_ => (sT S91 x0 = 10 ∧ (∀ R94, R94 = up2 R91 x0 0 x91_ → Q S91 I91 R94))))))) : LJ0_init_db425_79 G x0 x3 x4 S I R Q := by
  show E G MJ0_init_db425 79 [(0, vR x0), (3, vR x3), (4, vI x4)] [] S I R (qV Q)
  refine e_aload_n 0 dJ0_init_db425_79 rfl ?_
  refine e_iconst dJ0_init_db425_80 (by unfold InR; decide) ?_
  have o8 := h.1
  replace h := h.2
  obtain ⟨I81, eI81⟩ : ∃ z : MI, z = up2 I x0 1 1 := ⟨_, rfl⟩
  replace h := h I81 eI81
  refine e_putB dJ0_init_db425_81 flJ0_15 rfl (Or.inr ⟨rfl, rfl, rfl⟩) o8 (by decide) (eqI eI81 ?_)
  refine e_aload_n 0 dJ0_init_db425_84 rfl ?_
  refine e_aload_n 1 dJ0_init_db425_85 rfl ?_
  refine e_iconst dJ0_init_db425_86 (by unfold InR; decide) ?_
  refine e_iload 2 dJ0_init_db425_87 rfl ?_
  refine e_iconst dJ0_init_db425_89 (by unfold InR; decide) ?_
  refine e_ishl dJ0_init_db425_90 ?_
  refine i_SR (μ' := MJ7_copyOfRange_39247) (as := [vR x3, vI 0, vI (ishl x4 1)]) (st := [vR x0]) rfl dJ0_init_db425_91 mOKJ7_copyOfRange_39247 ⟨mlJ0_54, stJ7_copyOfRange_39247⟩ (by decide) (Nat.le_of_ble_eq_true rfl) rfl (Nat.le_of_ble_eq_true rfl) (CR.mono h ?_)
  clear h
  intro S91 I91 R91 x91_ h
  have o9 := h.1
  replace h := h.2
  obtain ⟨R94, eR94⟩ : ∃ z : MR, z = up2 R91 x0 0 x91_ := ⟨_, rfl⟩
  replace h := h R94 eR94
  refine e_putR dJ0_init_db425_94 flJ0_9 rfl (Or.inr ⟨rfl, rfl, rfl⟩) o9 (eqR eR94 ?_)
  exact e_return dJ0_init_db425_97 rfl ⟨rfl, h⟩

set_option maxRecDepth 100000 in
set_option maxHeartbeats 4000000 in
theorem bJ0_init_81219 {G : Gl} {S : Sh} {I : MI} {R : MR} {Q : Sh → MI → MR → Prop} {x0 : Nat} {x1 : Nat} (h : (sT S x0 ≠ 0 ∧ (CV G MJ0_init_db425 [vR x0, vR x1, vR 0] S I R (fun S3 I3 R3 => Q S3 I3 R3)))) : CV G MJ0_init_81219 [vR x0, vR x1] S I R Q := by
  show E G MJ0_init_81219 0 [(0, vR x0), (1, vR x1)] [] S I R (qV Q)
  refine e_aload_n 0 dJ0_init_81219_0 rfl ?_
  refine e_aload_n 1 dJ0_init_81219_1 rfl ?_
  refine e_null dJ0_init_81219_2 ?_
  have o1 := h.1
  replace h := h.2
  refine i_IV (μ' := MJ0_init_db425) (r := x0) (as := [vR x1, vR 0]) (st := []) rfl dJ0_init_81219_3 mOKJ0_init_db425 ⟨mlJ0_489, imJ0_init_db425⟩ ⟨rfl, rfl⟩ (by decide) (Nat.le_of_ble_eq_true rfl) rfl (Nat.le_of_ble_eq_true rfl) o1 (CV.mono h ?_)
  clear h
  intro S3 I3 R3 h
  exact e_return dJ0_init_81219_6 rfl ⟨rfl, h⟩

def vJ0_isLatin1_aae02 (I : MI) (x0 : Nat) : Int := (if (I x0 1) ≠ 0 then 0 else 1)
def pJ0_isLatin1_aae02 (S : Sh) (x0 : Nat) : Prop := (sT S x0 = 10 ∧ True)
set_option maxRecDepth 100000 in
set_option maxHeartbeats 4000000 in
theorem sJ0_isLatin1_aae02 {G : Gl} {S : Sh} {I : MI} {R : MR} {Q : Sh → MI → MR → Int → Prop} {x0 : Nat} (hp : pJ0_isLatin1_aae02 S x0) (hq : Q S I R (vJ0_isLatin1_aae02 I x0)) : CI G MJ0_isLatin1_aae02 [vR x0] S I R Q := by
  show E G MJ0_isLatin1_aae02 0 [(0, vR x0)] [] S I R (qI Q)
  unfold vJ0_isLatin1_aae02 at hq
  unfold pJ0_isLatin1_aae02 at hp
  refine e_getsC dJ0_isLatin1_aae02_0 fsJ0_38 ?_
  refine e_if_eq (tgt := 17) dJ0_isLatin1_aae02_3 (by decide) (fun c => absurd c (by decide)) (fun _ => ?_)
  refine e_aload_n 0 dJ0_isLatin1_aae02_6 rfl ?_
  have o1 := hp.1
  replace hp := hp.2
  refine e_getI dJ0_isLatin1_aae02_7 flJ0_15 rfl o1 ?_
  refine e_if_ne (tgt := 17) dJ0_isLatin1_aae02_10 (by decide) (fun c => ?_) (fun c => ?_)
  · rw [if_pos c] at hq
    refine e_iconst dJ0_isLatin1_aae02_17 (by unfold InR; decide) ?_
    exact e_zreturn dJ0_isLatin1_aae02_18 rfl (by decide) ⟨_, rfl, hq⟩
  · rw [if_neg c] at hq
    refine e_iconst dJ0_isLatin1_aae02_13 (by unfold InR; decide) ?_
    refine e_goto (tgt := 18) dJ0_isLatin1_aae02_14 (by decide) ?_
    exact e_zreturn dJ0_isLatin1_aae02_18 rfl (by decide) ⟨_, rfl, hq⟩

def vJ3_checkIndex_8e157  (x0 : Int) (x1 : Int) : Int := (if x0 < 0 then 0 else (if x0 < x1 then x0 else 0))
def pJ3_checkIndex_8e157  (x0 : Int) (x1 : Int) : Prop := ((x0 < 0 → False) ∧ (¬ (x0 < 0) → ((x0 < x1 → True) ∧ (¬ (x0 < x1) → False))))
set_option maxRecDepth 100000 in
set_option maxHeartbeats 4000000 in
theorem sJ3_checkIndex_8e157 {G : Gl} {S : Sh} {I : MI} {R : MR} {Q : Sh → MI → MR → Int → Prop} {x0 : Int} {x1 : Int} (hp : pJ3_checkIndex_8e157 x0 x1) (hq : Q S I R (vJ3_checkIndex_8e157 x0 x1)) : CI G MJ3_checkIndex_8e157 [vI x0, vI x1, vO 13] S I R Q := by
  show E G MJ3_checkIndex_8e157 0 [(0, vI x0), (1, vI x1), (2, vO 13)] [] S I R (qI Q)
  unfold vJ3_checkIndex_8e157 at hq
  unfold pJ3_checkIndex_8e157 at hp
  refine e_iload_n 0 dJ3_checkIndex_8e157_0 rfl ?_
  refine e_if_lt (tgt := 9) dJ3_checkIndex_8e157_1 (by decide) (fun c => ?_) (fun c => ?_)
  · rw [if_pos c] at hq
    replace hp := hp.1 c
    refine e_aload_n 2 dJ3_checkIndex_8e157_9 rfl ?_
    refine e_iload_n 0 dJ3_checkIndex_8e157_10 rfl ?_
    refine e_iload_n 1 dJ3_checkIndex_8e157_11 rfl ?_
    exact hp.elim
  · rw [if_neg c] at hq
    replace hp := hp.2 c
    refine e_iload_n 0 dJ3_checkIndex_8e157_4 rfl ?_
    refine e_iload_n 1 dJ3_checkIndex_8e157_5 rfl ?_
    refine e_icmp_lt (tgt := 16) dJ3_checkIndex_8e157_6 (by decide) (fun c => ?_) (fun c => ?_)
    · rw [if_pos c] at hq
      replace hp := hp.1 c
      refine e_iload_n 0 dJ3_checkIndex_8e157_16 rfl ?_
      exact e_ireturn dJ3_checkIndex_8e157_17 rfl ⟨_, rfl, hq⟩
    · rw [if_neg c] at hq
      replace hp := hp.2 c
      refine e_aload_n 2 dJ3_checkIndex_8e157_9 rfl ?_
      refine e_iload_n 0 dJ3_checkIndex_8e157_10 rfl ?_
      refine e_iload_n 1 dJ3_checkIndex_8e157_11 rfl ?_
      exact hp.elim

set_option maxRecDepth 100000 in
set_option maxHeartbeats 4000000 in
theorem bJ0_checkIndex_df160 {G : Gl} {S : Sh} {I : MI} {R : MR} {Q : Sh → MI → MR → Prop} {x0 : Int} {x1 : Int} (h : ((pJ3_checkIndex_8e157 x0 x1) ∧ Q S I R)) : CV G MJ0_checkIndex_df160 [vI x0, vI x1] S I R Q := by
  show E G MJ0_checkIndex_df160 0 [(0, vI x0), (1, vI x1)] [] S I R (qV Q)
  refine e_iload_n 0 dJ0_checkIndex_df160_0 rfl ?_
  refine e_iload_n 1 dJ0_checkIndex_df160_1 rfl ?_
  refine e_getsF dJ0_checkIndex_df160_2 fsJ0_1053 ?_
  have o1 := h.1
  replace h := h.2
  refine i_SI (μ' := MJ3_checkIndex_8e157) (as := [vI x0, vI x1, vO 13]) (st := []) rfl dJ0_checkIndex_df160_5 mOKJ3_checkIndex_8e157 ⟨mlJ0_1059, stJ3_checkIndex_8e157⟩ (by decide) (Nat.le_of_ble_eq_true rfl) rfl (Nat.le_of_ble_eq_true rfl) (sJ3_checkIndex_8e157 o1 ?_)
  refine e_pop dJ0_checkIndex_df160_8 rfl ?_
  exact e_return dJ0_checkIndex_df160_9 rfl ⟨rfl, h⟩

set_option maxRecDepth 100000 in
set_option maxHeartbeats 4000000 in
theorem bJ1_charAt_3b067 {G : Gl} {S : Sh} {I : MI} {R : MR} {Q : Sh → MI → MR → Int → Prop} {x0 : Nat} {x1 : Int} (h : (21 ≤ sT S x0 ∧ (CV G MJ0_checkIndex_df160 [vI x1, vI (sL S x0 : Int)] S I R (fun S3 I3 R3 => (sT S3 x0 = 22 ∧ (((0 : Int) ≤ x1 ∧ x1 < (sL S3 x0 : Int)) ∧ (((0 : Int) ≤ (i2c (iand (I3 x0 (Int.toNat x1)) 255)) ∧ (i2c (iand (I3 x0 (Int.toNat x1)) 255)) < 65536) ∧ Q S3 I3 R3 (i2c (iand (I3 x0 (Int.toNat x1)) 255))))))))) : CI G MJ1_charAt_3b067 [vR x0, vI x1] S I R Q := by
  show E G MJ1_charAt_3b067 0 [(0, vR x0), (1, vI x1)] [] S I R (qI Q)
  refine e_iload_n 1 dJ1_charAt_3b067_0 rfl ?_
  refine e_aload_n 0 dJ1_charAt_3b067_1 rfl ?_
  have o1 := h.1
  replace h := h.2
  refine e_alen dJ1_charAt_3b067_2 o1 ?_
  refine i_SV (μ' := MJ0_checkIndex_df160) (as := [vI x1, vI (sL S x0 : Int)]) (st := []) rfl dJ1_charAt_3b067_3 mOKJ0_checkIndex_df160 ⟨mlJ1_9, stJ0_checkIndex_df160⟩ (by decide) (Nat.le_of_ble_eq_true rfl) rfl (Nat.le_of_ble_eq_true rfl) (CV.mono h ?_)
  clear h
  intro S3 I3 R3 h
  refine e_aload_n 0 dJ1_charAt_3b067_6 rfl ?_
  refine e_iload_n 1 dJ1_charAt_3b067_7 rfl ?_
  have o2 := h.1
  replace h := h.2
  have o3 := h.1
  replace h := h.2
  refine e_bald dJ1_charAt_3b067_8 o2 o3 ?_
  refine e_sipush (x := 255) dJ1_charAt_3b067_9 ⟨by decide +kernel, by unfold InR; decide⟩ ?_
  refine e_iand dJ1_charAt_3b067_12 ?_
  refine e_i2c dJ1_charAt_3b067_13 ?_
  have o4 := h.1
  replace h := h.2
  exact e_creturn dJ1_charAt_3b067_14 rfl o4 ⟨_, rfl, h⟩

set_option maxRecDepth 100000 in
set_option maxHeartbeats 4000000 in
theorem bJ0_charAt_5068e {G : Gl} {S : Sh} {I : MI} {R : MR} {Q : Sh → MI → MR → Int → Prop} {x0 : Nat} {x1 : Int} (h : (sT S x0 = 10 ∧ ((pJ0_isLatin1_aae02 S x0) ∧ (((vJ0_isLatin1_aae02 I x0) = 0 → False) ∧ (¬ ((vJ0_isLatin1_aae02 I x0) = 0) → (CI G MJ1_charAt_3b067 [vR (R x0 0), vI x1] S I R (fun S12 I12 R12 x12_ => (((0 : Int) ≤ x12_ ∧ x12_ < 65536) ∧ Q S12 I12 R12 x12_)))))))) : CI G MJ0_charAt_5068e [vR x0, vI x1] S I R Q := by
  show E G MJ0_charAt_5068e 0 [(0, vR x0), (1, vI x1)] [] S I R (qI Q)
  refine e_aload_n 0 dJ0_charAt_5068e_0 rfl ?_
  have o1 := h.1
  replace h := h.2
  have o2 := h.1
  replace h := h.2
  refine i_VI (μ' := MJ0_isLatin1_aae02) (ci := 9) (r := x0) (as := []) (st := []) rfl dJ0_charAt_5068e_1 mOKJ0_isLatin1_aae02 ⟨mlJ0_492, imJ0_isLatin1_aae02, seJ0_isLatin1_aae02⟩ (by decide) (Nat.le_of_ble_eq_true rfl) rfl (Nat.le_of_ble_eq_true rfl) ⟨by decide, rfl⟩ o1 (sJ0_isLatin1_aae02 o2 ?_)
  refine e_if_eq (tgt := 16) dJ0_charAt_5068e_4 (by decide) (fun c => ?_) (fun c => ?_)
  · replace h := h.1 c
    refine e_aload_n 0 dJ0_charAt_5068e_16 rfl ?_
    refine e_getR dJ0_charAt_5068e_17 flJ0_9 rfl o1 ?_
    refine e_iload_n 1 dJ0_charAt_5068e_20 rfl ?_
    exact h.elim
  · replace h := h.2 c
    refine e_aload_n 0 dJ0_charAt_5068e_7 rfl ?_
    refine e_getR dJ0_charAt_5068e_8 flJ0_9 rfl o1 ?_
    refine e_iload_n 1 dJ0_charAt_5068e_11 rfl ?_
    refine i_SI (μ' := MJ1_charAt_3b067) (as := [vR (R x0 0), vI x1]) (st := []) rfl dJ0_charAt_5068e_12 mOKJ1_charAt_3b067 ⟨mlJ0_495, stJ1_charAt_3b067⟩ (by decide) (Nat.le_of_ble_eq_true rfl) rfl (Nat.le_of_ble_eq_true rfl) (CI.mono h ?_)
    clear h
    intro S12 I12 R12 x12_ h
    have o3 := h.1
    replace h := h.2
    exact e_creturn dJ0_charAt_5068e_15 rfl o3 ⟨_, rfl, h⟩

def LJ1_equals_b5fdf_9 (G : Gl) (x0 : Nat) (x1 : Nat) (x2 : Int) (S : Sh) (I : MI) (R : MR) (Q : Sh → MI → MR → Int → Prop) : Prop := E G MJ1_equals_b5fdf 9 [(0, vR x0), (1, vR x1), (2, vI x2)] [] S I R (qI Q)
set_option maxRecDepth 100000 in
set_option maxHeartbeats 4000000 in
theorem bJ1_equals_b5fdf {G : Gl} {S : Sh} {I : MI} {R : MR} {Q : Sh → MI → MR → Int → Prop} {x0 : Nat} {x1 : Nat} (h : (21 ≤ sT S x0 ∧ (21 ≤ sT S x1 ∧ (((sL S x0 : Int) ≠ (sL S x1 : Int) → Q S I R 0) ∧ (¬ ((sL S x0 : Int) ≠ (sL S x1 : Int)) → LJ1_equals_b5fdf_9 G x0 x1 0 S I R Q))))) : CI G MJ1_equals_b5fdf [vR x0, vR x1] S I R Q := by
  show E G MJ1_equals_b5fdf 0 [(0, vR x0), (1, vR x1)] [] S I R (qI Q)
  refine e_aload_n 0 dJ1_equals_b5fdf_0 rfl ?_
  have o1 := h.1
  replace h := h.2
  refine e_alen dJ1_equals_b5fdf_1 o1 ?_
  refine e_aload_n 1 dJ1_equals_b5fdf_2 rfl ?_
  have o2 := h.1
  replace h := h.2
  refine e_alen dJ1_equals_b5fdf_3 o2 ?_
  refine e_icmp_ne (tgt := 34) dJ1_equals_b5fdf_4 (by decide) (fun c => ?_) (fun c => ?_)
  · replace h := h.1 c
    refine e_iconst dJ1_equals_b5fdf_34 (by unfold InR; decide) ?_
    exact e_zreturn dJ1_equals_b5fdf_35 rfl (by decide) ⟨_, rfl, h⟩
  · replace h := h.2 c
    refine e_iconst dJ1_equals_b5fdf_7 (by unfold InR; decide) ?_
    refine e_istore_n (ls2 := [(2, vI 0), (0, vR x0), (1, vR x1)]) dJ1_equals_b5fdf_8 (by decide) rfl ?_
    exact e_sub (ls2 := [(0, vR x0), (1, vR x1), (2, vI 0)]) [1, 2, 0] rfl h
set_option maxRecDepth 100000 in
set_option maxHeartbeats 4000000 in
theorem bJ1_equals_b5fdf_9 {G : Gl} {S : Sh} {I : MI} {R : MR} {Q : Sh → MI → MR → Int → Prop} {x0 : Nat} {x1 : Nat} {x2 : Int} (h : (21 ≤ sT S x0 ∧ (((sL S x0 : Int) ≤ x2 → Q S I R 1) ∧ (¬ ((sL S x0 : Int) ≤ x2) → (sT S x0 = 22 ∧ (((0 : Int) ≤ x2 ∧ x2 < (sL S x0 : Int)) ∧ (sT S x1 = 22 ∧ (((0 : Int) ≤ x2 ∧ x2 < (sL S x1 : Int)) ∧ (((I x0 (Int.toNat x2)) = (I x1 (Int.toNat x2)) → LJ1_equals_b5fdf_9 G x0 x1 (w32 (x2 + 1)) S I R Q) ∧ (¬ ((I x0 (Int.toNat x2)) = (I x1 (Int.toNat x2))) → Q S I R 0)))))))))) : LJ1_equals_b5fdf_9 G x0 x1 x2 S I R Q := by
  show E G MJ1_equals_b5fdf 9 [(0, vR x0), (1, vR x1), (2, vI x2)] [] S I R (qI Q)
  refine e_iload_n 2 dJ1_equals_b5fdf_9 rfl ?_
  refine e_aload_n 0 dJ1_equals_b5fdf_10 rfl ?_
  have o3 := h.1
  replace h := h.2
  refine e_alen dJ1_equals_b5fdf_11 o3 ?_
  refine e_icmp_ge (tgt := 32) dJ1_equals_b5fdf_12 (by decide) (fun c => ?_) (fun c => ?_)
  · replace h := h.1 c
    refine e_iconst dJ1_equals_b5fdf_32 (by unfold InR; decide) ?_
    exact e_zreturn dJ1_equals_b5fdf_33 rfl (by decide) ⟨_, rfl, h⟩
  · replace h := h.2 c
    refine e_aload_n 0 dJ1_equals_b5fdf_15 rfl ?_
    refine e_iload_n 2 dJ1_equals_b5fdf_16 rfl ?_
    have o4 := h.1
    replace h := h.2
    have o5 := h.1
    replace h := h.2
    refine e_bald dJ1_equals_b5fdf_17 o4 o5 ?_
    refine e_aload_n 1 dJ1_equals_b5fdf_18 rfl ?_
    refine e_iload_n 2 dJ1_equals_b5fdf_19 rfl ?_
    have o6 := h.1
    replace h := h.2
    have o7 := h.1
    replace h := h.2
    refine e_bald dJ1_equals_b5fdf_20 o6 o7 ?_
    refine e_icmp_eq (tgt := 26) dJ1_equals_b5fdf_21 (by decide) (fun c => ?_) (fun c => ?_)
    · replace h := h.1 c
      refine e_iinc (ls2 := [(2, vI (w32 (x2 + 1))), (0, vR x0), (1, vR x1)]) 2 dJ1_equals_b5fdf_26 rfl (by decide) rfl ?_
      refine e_goto (tgt := 9) dJ1_equals_b5fdf_29 (by decide) ?_
      exact e_sub (ls2 := [(0, vR x0), (1, vR x1), (2, vI (w32 (x2 + 1)))]) [1, 2, 0] rfl h
    · replace h := h.2 c
      refine e_iconst dJ1_equals_b5fdf_24 (by unfold InR; decide) ?_
      exact e_zreturn dJ1_equals_b5fdf_25 rfl (by decide) ⟨_, rfl, h⟩

def LJ0_equals_9ea2d_36 (G : Gl) (x0 : Nat) (x2 : Nat) (S : Sh) (I : MI) (R : MR) (Q : Sh → MI → MR → Int → Prop) : Prop := E G MJ0_equals_9ea2d 36 [(0, vR x0), (2, vR x2)] [] S I R (qI Q)
set_option maxRecDepth 100000 in
set_option maxHeartbeats 4000000 in
theorem bJ0_equals_9ea2d {G : Gl} {S : Sh} {I : MI} {R : MR} {Q : Sh → MI → MR → Int → Prop} {x0 : Nat} {x1 : Nat} (h : ((x0 ≠ x1 → (sT S x1 = 10 ∧ (sT S x0 = 10 ∧ (((I x0 1) ≠ (I x1 1) → Q S I R 0) ∧ (¬ ((I x0 1) ≠ (I x1 1)) → LJ0_equals_9ea2d_36 G x0 x1 S I R Q))))) ∧ (¬ (x0 ≠ x1) → Q S I R 1))) : CI G MJ0_equals_9ea2d [vR x0, vR x1] S I R Q := by
  show E G MJ0_equals_9ea2d 0 [(0, vR x0), (1, vR x1)] [] S I R (qI Q)
  refine e_aload_n 0 dJ0_equals_9ea2d_0 rfl ?_
  refine e_aload_n 1 dJ0_equals_9ea2d_1 rfl ?_
  refine e_acmp_ne (tgt := 7) dJ0_equals_9ea2d_2 (by decide) (fun c => ?_) (fun c0 => ?_)
  · replace h := h.1 c
    refine e_aload_n 1 dJ0_equals_9ea2d_7 rfl ?_
    have o1 := h.1
    replace h := h.2
    refine e_instS dJ0_equals_9ea2d_8 clJ0_10 o1 ?_
    refine e_if_eq (tgt := 54) dJ0_equals_9ea2d_11 (by decide) (fun c => absurd c (by decide)) (fun _ => ?_)
    refine e_aload_n 1 dJ0_equals_9ea2d_14 rfl ?_
    refine e_castS dJ0_equals_9ea2d_15 clJ0_10 o1 ?_
    refine e_astore_n (ls2 := [(2, vR x1), (0, vR x0), (1, vR x1)]) dJ0_equals_9ea2d_18 (by decide) rfl ?_
    refine e_getsC dJ0_equals_9ea2d_19 fsJ0_38 ?_
    refine e_if_eq (tgt := 36) dJ0_equals_9ea2d_22 (by decide) (fun c => absurd c (by decide)) (fun _ => ?_)
    refine e_aload_n 1 dJ0_equals_9ea2d_25 rfl ?_
    have o2 := h.1
    replace h := h.2
    refine e_getI dJ0_equals_9ea2d_26 flJ0_15 rfl o2 ?_
    refine e_aload_n 0 dJ0_equals_9ea2d_29 rfl ?_
    refine e_getI dJ0_equals_9ea2d_30 flJ0_15 rfl o1 ?_
    refine e_icmp_ne (tgt := 54) dJ0_equals_9ea2d_33 (by decide) (fun c => ?_) (fun c => ?_)
    · replace h := h.1 c
      refine e_iconst dJ0_equals_9ea2d_54 (by unfold InR; decide) ?_
      exact e_zreturn dJ0_equals_9ea2d_55 rfl (by decide) ⟨_, rfl, h⟩
    · replace h := h.2 c
      exact e_sub (ls2 := [(0, vR x0), (2, vR x1)]) [1, 0] rfl h
  · replace h := h.2 (fun q => q c0)
    refine e_iconst dJ0_equals_9ea2d_5 (by unfold InR; decide) ?_
    exact e_zreturn dJ0_equals_9ea2d_6 rfl (by decide) ⟨_, rfl, h⟩
set_option maxRecDepth 100000 in
set_option maxHeartbeats 4000000 in
theorem bJ0_equals_9ea2d_36 {G : Gl} {S : Sh} {I : MI} {R : MR} {Q : Sh → MI → MR → Int → Prop} {x0 : Nat} {x2 : Nat} (h : (sT S x0 = 10 ∧ (sT S x2 = 10 ∧ (CI G MJ1_equals_b5fdf [vR (R x0 0), vR (R x2 0)] S I R (fun S44 I44 R44 x44_ => ((x44_ = 0 → Q S44 I44 R44 0) ∧ (¬ (x44_ = 0) → Q S44 I44 R44 1))))))) : LJ0_equals_9ea2d_36 G x0 x2 S I R Q := by
  show E G MJ0_equals_9ea2d 36 [(0, vR x0), (2, vR x2)] [] S I R (qI Q)
  refine e_aload_n 0 dJ0_equals_9ea2d_36 rfl ?_
  have o3 := h.1
  replace h := h.2
  refine e_getR dJ0_equals_9ea2d_37 flJ0_9 rfl o3 ?_
  refine e_aload_n 1 dJ0_equals_9ea2d_40 rfl ?_
  have o4 := h.1
  replace h := h.2
  refine e_getR dJ0_equals_9ea2d_41 flJ0_9 rfl o4 ?_
  refine i_SI (μ' := MJ1_equals_b5fdf) (as := [vR (R x0 0), vR (R x2 0)]) (st := []) rfl dJ0_equals_9ea2d_44 mOKJ1_equals_b5fdf ⟨mlJ0_541, stJ1_equals_b5fdf⟩ (by decide) (Nat.le_of_ble_eq_true rfl) rfl (Nat.le_of_ble_eq_true rfl) (CI.mono h ?_)
  clear h
  intro S44 I44 R44 x44_ h
  refine e_if_eq (tgt := 54) dJ0_equals_9ea2d_47 (by decide) (fun c => ?_) (fun c => ?_)
  · replace h := h.1 c
    refine e_iconst dJ0_equals_9ea2d_54 (by unfold InR; decide) ?_
    exact e_zreturn dJ0_equals_9ea2d_55 rfl (by decide) ⟨_, rfl, h⟩
  · replace h := h.2 c
    refine e_iconst dJ0_equals_9ea2d_50 (by unfold InR; decide) ?_
    refine e_goto (tgt := 55) dJ0_equals_9ea2d_51 (by decide) ?_
    exact e_zreturn dJ0_equals_9ea2d_55 rfl (by decide) ⟨_, rfl, h⟩

set_option maxRecDepth 100000 in
set_option maxHeartbeats 4000000 in
theorem bJ4_init_da8c8 {G : Gl} {S : Sh} {I : MI} {R : MR} {Q : Sh → MI → MR → Prop} {x0 : Nat} (h : (sT S x0 ≠ 0 ∧ (CV G MJ5_init_d00df [vR x0, vI 16] S I R (fun S3 I3 R3 => Q S3 I3 R3)))) : CV G MJ4_init_da8c8 [vR x0] S I R Q := by
  show E G MJ4_init_da8c8 0 [(0, vR x0)] [] S I R (qV Q)
  refine e_aload_n 0 dJ4_init_da8c8_0 rfl ?_
  refine e_bipush (x := 16) dJ4_init_da8c8_1 ⟨by decide +kernel, by unfold InR; decide⟩ ?_
  have o1 := h.1
  replace h := h.2
  refine i_IV (μ' := MJ5_init_d00df) (r := x0) (as := [vI 16]) (st := []) rfl dJ4_init_da8c8_3 mOKJ5_init_d00df ⟨mlJ4_1, imJ5_init_d00df⟩ ⟨rfl, rfl⟩ (by decide) (Nat.le_of_ble_eq_true rfl) rfl (Nat.le_of_ble_eq_true rfl) o1 (CV.mono h ?_)
  clear h
  intro S3 I3 R3 h
  exact e_return dJ4_init_da8c8_6 rfl ⟨rfl, h⟩

set_option maxRecDepth 100000 in
set_option maxHeartbeats 4000000 in
theorem bJ4_append_15ec4 {G : Gl} {S : Sh} {I : MI} {R : MR} {Q : Sh → MI → MR → Nat → Prop} {x0 : Nat} {x1 : Nat} (h : (sT S x0 = 11 ∧ (CR G MJ5_append_cf1ce [vR x0, vO (x1 + 1)] S I R (fun S2 I2 R2 x2_ => Q S2 I2 R2 x0)))) : CR G MJ4_append_15ec4 [vR x0, vO (x1 + 1)] S I R Q := by
  show E G MJ4_append_15ec4 0 [(0, vR x0), (1, vO (x1 + 1))] [] S I R (qR Q)
  refine e_aload_n 0 dJ4_append_15ec4_0 rfl ?_
  refine e_aload_n 1 dJ4_append_15ec4_1 rfl ?_
  have o1 := h.1
  replace h := h.2
  refine i_SUR (μ' := MJ5_append_cf1ce) (r := x0) (as := [vO (x1 + 1)]) (st := []) rfl dJ4_append_15ec4_2 mOKJ5_append_cf1ce (by decide) ⟨mlJ4_29, imJ5_append_cf1ce, ssJ5_append_cf1ce⟩ (by decide) (Nat.le_of_ble_eq_true rfl) rfl (Nat.le_of_ble_eq_true rfl) rfl o1 (CR.mono h ?_)
  clear h
  intro S2 I2 R2 x2_ h
  refine e_pop dJ4_append_15ec4_5 rfl ?_
  refine e_aload_n 0 dJ4_append_15ec4_6 rfl ?_
  exact e_areturn (C := "") dJ4_append_15ec4_7 ⟨_, rfl⟩ ⟨_, rfl, h⟩

set_option maxRecDepth 100000 in
set_option maxHeartbeats 4000000 in
theorem bJ4_append_cf468 {G : Gl} {S : Sh} {I : MI} {R : MR} {Q : Sh → MI → MR → Nat → Prop} {x0 : Nat} {x1 : Int} (h : (sT S x0 = 11 ∧ (CR G MJ5_append_3fe6f [vR x0, vI x1] S I R (fun S2 I2 R2 x2_ => Q S2 I2 R2 x0)))) : CR G MJ4_append_cf468 [vR x0, vI x1] S I R Q := by
  show E G MJ4_append_cf468 0 [(0, vR x0), (1, vI x1)] [] S I R (qR Q)
  refine e_aload_n 0 dJ4_append_cf468_0 rfl ?_
  refine e_iload_n 1 dJ4_append_cf468_1 rfl ?_
  have o1 := h.1
  replace h := h.2
  refine i_SUR (μ' := MJ5_append_3fe6f) (r := x0) (as := [vI x1]) (st := []) rfl dJ4_append_cf468_2 mOKJ5_append_3fe6f (by decide) ⟨mlJ4_50, imJ5_append_3fe6f, ssJ5_append_3fe6f⟩ (by decide) (Nat.le_of_ble_eq_true rfl) rfl (Nat.le_of_ble_eq_true rfl) rfl o1 (CR.mono h ?_)
  clear h
  intro S2 I2 R2 x2_ h
  refine e_pop dJ4_append_cf468_5 rfl ?_
  refine e_aload_n 0 dJ4_append_cf468_6 rfl ?_
  exact e_areturn (C := "") dJ4_append_cf468_7 ⟨_, rfl⟩ ⟨_, rfl, h⟩

set_option maxRecDepth 100000 in
set_option maxHeartbeats 4000000 in
theorem bJ4_append_bf812 {G : Gl} {S : Sh} {I : MI} {R : MR} {Q : Sh → MI → MR → Nat → Prop} {x0 : Nat} {x1 : Int} (h : (sT S x0 = 11 ∧ (CR G MJ5_append_c97b9 [vR x0, vI x1] S I R (fun S2 I2 R2 x2_ => Q S2 I2 R2 x0)))) : CR G MJ4_append_bf812 [vR x0, vI x1] S I R Q := by
  show E G MJ4_append_bf812 0 [(0, vR x0), (1, vI x1)] [] S I R (qR Q)
  refine e_aload_n 0 dJ4_append_bf812_0 rfl ?_
  refine e_iload_n 1 dJ4_append_bf812_1 rfl ?_
  have o1 := h.1
  replace h := h.2
  refine i_SUR (μ' := MJ5_append_c97b9) (r := x0) (as := [vI x1]) (st := []) rfl dJ4_append_bf812_2 mOKJ5_append_c97b9 (by decide) ⟨mlJ4_53, imJ5_append_c97b9, ssJ5_append_c97b9⟩ (by decide) (Nat.le_of_ble_eq_true rfl) rfl (Nat.le_of_ble_eq_true rfl) rfl o1 (CR.mono h ?_)
  clear h
  intro S2 I2 R2 x2_ h
  refine e_pop dJ4_append_bf812_5 rfl ?_
  refine e_aload_n 0 dJ4_append_bf812_6 rfl ?_
  exact e_areturn (C := "") dJ4_append_bf812_7 ⟨_, rfl⟩ ⟨_, rfl, h⟩

set_option maxRecDepth 100000 in
set_option maxHeartbeats 4000000 in
theorem bJ4_toString_0e30d {G : Gl} {S : Sh} {I : MI} {R : MR} {Q : Sh → MI → MR → Nat → Prop} {x0 : Nat} (h : (∀ S0 I0 R0, S0 = shNew S 10 0 4 → I0 = mNew I (sN S) 0 → R0 = mNew R (sN S) 0 → (sT S0 (sN S) ≠ 0 ∧ (CV G MJ0_init_81219 [vR (sN S), vR x0] S0 I0 R0 (fun S5 I5 R5 => Q S5 I5 R5 (sN S)))))) : CR G MJ4_toString_0e30d [vR x0] S I R Q := by
  show E G MJ4_toString_0e30d 0 [(0, vR x0)] [] S I R (qR Q)
  obtain ⟨S0, eS0⟩ : ∃ z : Sh, z = shNew S 10 0 4 := ⟨_, rfl⟩
  obtain ⟨I0, eI0⟩ : ∃ z : MI, z = mNew I (sN S) 0 := ⟨_, rfl⟩
  obtain ⟨R0, eR0⟩ : ∃ z : MR, z = mNew R (sN S) 0 := ⟨_, rfl⟩
  replace h := h S0 I0 R0 eS0 eI0 eR0
  refine e_new (ci := 9) dJ4_toString_0e30d_0 (by decide) ⟨clJ4_18, is9, ii9⟩ (eqS eS0 (eqI eI0 (eqR eR0 ?_)))
  refine e_dup dJ4_toString_0e30d_3 rfl ?_
  refine e_aload_n 0 dJ4_toString_0e30d_4 rfl ?_
  have o1 := h.1
  replace h := h.2
  refine i_IV (μ' := MJ0_init_81219) (r := (sN S)) (as := [vR x0]) (st := [vR (sN S)]) rfl dJ4_toString_0e30d_5 mOKJ0_init_81219 ⟨mlJ4_137, imJ0_init_81219⟩ ⟨rfl, rfl⟩ (by decide) (Nat.le_of_ble_eq_true rfl) rfl (Nat.le_of_ble_eq_true rfl) o1 (CV.mono h ?_)
  clear h
  intro S5 I5 R5 h
  exact e_areturn (C := "") dJ4_toString_0e30d_8 ⟨_, rfl⟩ ⟨_, rfl, h⟩
