def vX6_bound (I : MI) (x0 : Nat) : Int := (if (I x0 0) ≠ 1 then (if (I x0 0) ≠ 2 then 8 else 12) else 24)
def pX6_bound (S : Sh) (x0 : Nat) : Prop := (sT S x0 = 6 ∧ True)
set_option maxRecDepth 100000 in
set_option maxHeartbeats 4000000 in
theorem sX6_bound {G : Gl} {S : Sh} {I : MI} {R : MR} {Q : Sh → MI → MR → Int → Prop} {x0 : Nat} (hp : pX6_bound S x0) (hq : Q S I R (vX6_bound I x0)) : CI G MX6_bound [vR x0] S I R Q := by
  show E G MX6_bound 0 [(0, vR x0)] [] S I R (qI Q)
  unfold vX6_bound at hq
  unfold pX6_bound at hp
  refine e_aload_n 0 dX6_bound_0 rfl ?_
  have o1 := hp.1
  replace hp := hp.2
  refine e_getI dX6_bound_1 flX6_9 rfl o1 ?_
  refine e_iconst dX6_bound_4 (by unfold InR; decide) ?_
  refine e_icmp_ne (tgt := 13) dX6_bound_5 (by decide) (fun c => ?_) (fun c => ?_)
  · rw [if_pos c] at hq
    refine e_aload_n 0 dX6_bound_13 rfl ?_
    refine e_getI dX6_bound_14 flX6_9 rfl o1 ?_
    refine e_iconst dX6_bound_17 (by unfold InR; decide) ?_
    refine e_icmp_ne (tgt := 26) dX6_bound_18 (by decide) (fun c => ?_) (fun c => ?_)
    · rw [if_pos c] at hq
      refine e_bipush (x := 8) dX6_bound_26 ⟨by decide +kernel, by unfold InR; decide⟩ ?_
      exact e_ireturn dX6_bound_28 rfl ⟨_, rfl, hq⟩
    · rw [if_neg c] at hq
      refine e_bipush (x := 12) dX6_bound_21 ⟨by decide +kernel, by unfold InR; decide⟩ ?_
      refine e_goto (tgt := 28) dX6_bound_23 (by decide) ?_
      exact e_ireturn dX6_bound_28 rfl ⟨_, rfl, hq⟩
  · rw [if_neg c] at hq
    refine e_bipush (x := 24) dX6_bound_8 ⟨by decide +kernel, by unfold InR; decide⟩ ?_
    refine e_goto (tgt := 28) dX6_bound_10 (by decide) ?_
    exact e_ireturn dX6_bound_28 rfl ⟨_, rfl, hq⟩

def vX6_width (I : MI) (R : MR) (x0 : Nat) : Int := (I (R x0 4) (Int.toNat (vX6_bound I x0)))
def pX6_width (S : Sh) (I : MI) (R : MR) (x0 : Nat) : Prop := (sT S x0 = 6 ∧ ((pX6_bound S x0) ∧ (sT S (R x0 4) = 21 ∧ (((0 : Int) ≤ (vX6_bound I x0) ∧ (vX6_bound I x0) < (sL S (R x0 4) : Int)) ∧ True))))
set_option maxRecDepth 100000 in
set_option maxHeartbeats 4000000 in
theorem sX6_width {G : Gl} {S : Sh} {I : MI} {R : MR} {Q : Sh → MI → MR → Int → Prop} {x0 : Nat} (hp : pX6_width S I R x0) (hq : Q S I R (vX6_width I R x0)) : CI G MX6_width [vR x0] S I R Q := by
  show E G MX6_width 0 [(0, vR x0)] [] S I R (qI Q)
  unfold vX6_width at hq
  unfold pX6_width at hp
  refine e_aload_n 0 dX6_width_0 rfl ?_
  have o1 := hp.1
  replace hp := hp.2
  refine e_getR dX6_width_1 flX6_31 rfl o1 ?_
  refine e_aload_n 0 dX6_width_4 rfl ?_
  have o2 := hp.1
  replace hp := hp.2
  refine i_VI (μ' := MX6_bound) (ci := 5) (r := x0) (as := []) (st := [vR (R x0 4)]) rfl dX6_width_5 mOKX6_bound ⟨mlX6_43, imX6_bound, seX6_bound⟩ (by decide) (Nat.le_of_ble_eq_true rfl) rfl (Nat.le_of_ble_eq_true rfl) ⟨by decide, rfl⟩ o1 (sX6_bound o2 ?_)
  have o3 := hp.1
  replace hp := hp.2
  have o4 := hp.1
  replace hp := hp.2
  refine e_iald dX6_width_8 o3 o4 ?_
  exact e_ireturn dX6_width_9 rfl ⟨_, rfl, hq⟩

def LX6_column_12 (G : Gl) (x0 : Nat) (x1 : Int) (x2 : Int) (x3 : Int) (S : Sh) (I : MI) (R : MR) (Q : Sh → MI → MR → Int → Prop) : Prop := E G MX6_column 12 [(0, vR x0), (1, vI x1), (2, vI x2), (3, vI x3)] [] S I R (qI Q)
set_option maxRecDepth 100000 in
set_option maxHeartbeats 4000000 in
theorem bX6_column {G : Gl} {S : Sh} {I : MI} {R : MR} {Q : Sh → MI → MR → Int → Prop} {x0 : Nat} {x1 : Int} (h : (sT S x0 = 6 ∧ ((pX6_width S I R x0) ∧ LX6_column_12 G x0 x1 0 (min (vX6_width I R x0) 120) S I R Q))) : CI G MX6_column [vR x0, vI x1] S I R Q := by
  show E G MX6_column 0 [(0, vR x0), (1, vI x1)] [] S I R (qI Q)
  refine e_iconst dX6_column_0 (by unfold InR; decide) ?_
  refine e_istore_n (ls2 := [(2, vI 0), (0, vR x0), (1, vI x1)]) dX6_column_1 (by decide) rfl ?_
  refine e_aload_n 1 dX6_column_2 rfl ?_
  have o1 := h.1
  replace h := h.2
  have o2 := h.1
  replace h := h.2
  refine i_VI (μ' := MX6_width) (ci := 5) (r := x0) (as := []) (st := []) rfl dX6_column_3 mOKX6_width ⟨mlX6_72, imX6_width, seX6_width⟩ (by decide) (Nat.le_of_ble_eq_true rfl) rfl (Nat.le_of_ble_eq_true rfl) ⟨by decide, rfl⟩ o1 (sX6_width o2 ?_)
  refine e_bipush (x := 120) dX6_column_6 ⟨by decide +kernel, by unfold InR; decide⟩ ?_
  refine e_mmin dX6_column_8 mmX6_75 mxmin (by decide) (Nat.le_of_ble_eq_true rfl) ?_
  refine e_istore_n (ls2 := [(3, vI (min (vX6_width I R x0) 120)), (2, vI 0), (0, vR x0), (1, vI x1)]) dX6_column_11 (by decide) rfl ?_
  exact e_sub (ls2 := [(0, vR x0), (1, vI x1), (2, vI 0), (3, vI (min (vX6_width I R x0) 120))]) [2, 3, 1, 0] rfl h
set_option maxRecDepth 100000 in
set_option maxHeartbeats 4000000 in
theorem bX6_column_12 {G : Gl} {S : Sh} {I : MI} {R : MR} {Q : Sh → MI → MR → Int → Prop} {x0 : Nat} {x1 : Int} {x2 : Int} {x3 : Int} (h : ((x3 ≤ x2 → (sT S x0 = 6 ∧ ((pX6_width S I R x0) ∧ (((vX6_width I R x0) ≤ x2 → Q S I R (-1)) ∧ (¬ ((vX6_width I R x0) ≤ x2) → (sT S (R x0 3) = 21 ∧ (((0 : Int) ≤ x2 ∧ x2 < (sL S (R x0 3) : Int)) ∧ (((I (R x0 3) (Int.toNat x2)) ≠ x1 → Q S I R (-1)) ∧ (¬ ((I (R x0 3) (Int.toNat x2)) ≠ x1) → Q S I R x2))))))))) ∧ (¬ (x3 ≤ x2) → (sT S x0 = 6 ∧ (sT S (R x0 3) = 21 ∧ (((0 : Int) ≤ (iushr (w32 (x2 + x3)) 1) ∧ (iushr (w32 (x2 + x3)) 1) < (sL S (R x0 3) : Int)) ∧ ((x1 ≤ (I (R x0 3) (Int.toNat (iushr (w32 (x2 + x3)) 1))) → LX6_column_12 G x0 x1 x2 (iushr (w32 (x2 + x3)) 1) S I R Q) ∧ (¬ (x1 ≤ (I (R x0 3) (Int.toNat (iushr (w32 (x2 + x3)) 1)))) → LX6_column_12 G x0 x1 (w32 ((iushr (w32 (x2 + x3)) 1) + 1)) x3 S I R Q)))))))) : LX6_column_12 G x0 x1 x2 x3 S I R Q := by
  show E G MX6_column 12 [(0, vR x0), (1, vI x1), (2, vI x2), (3, vI x3)] [] S I R (qI Q)
  refine e_iload_n 2 dX6_column_12 rfl ?_
  refine e_iload_n 3 dX6_column_13 rfl ?_
  refine e_icmp_ge (tgt := 49) dX6_column_14 (by decide) (fun c => ?_) (fun c => ?_)
  · replace h := h.1 c
    refine e_iload_n 2 dX6_column_49 rfl ?_
    refine e_aload_n 0 dX6_column_50 rfl ?_
    have o3 := h.1
    replace h := h.2
    have o4 := h.1
    replace h := h.2
    refine i_VI (μ' := MX6_width) (ci := 5) (r := x0) (as := []) (st := [vI x2]) rfl dX6_column_51 mOKX6_width ⟨mlX6_72, imX6_width, seX6_width⟩ (by decide) (Nat.le_of_ble_eq_true rfl) rfl (Nat.le_of_ble_eq_true rfl) ⟨by decide, rfl⟩ o3 (sX6_width o4 ?_)
    refine e_icmp_ge (tgt := 71) dX6_column_54 (by decide) (fun c => ?_) (fun c => ?_)
    · replace h := h.1 c
      refine e_iconst dX6_column_71 (by unfold InR; decide) ?_
      exact e_ireturn dX6_column_72 rfl ⟨_, rfl, h⟩
    · replace h := h.2 c
      refine e_aload_n 0 dX6_column_57 rfl ?_
      refine e_getR dX6_column_58 flX6_28 rfl o3 ?_
      refine e_iload_n 2 dX6_column_61 rfl ?_
      have o5 := h.1
      replace h := h.2
      have o6 := h.1
      replace h := h.2
      refine e_iald dX6_column_62 o5 o6 ?_
      refine e_iload_n 1 dX6_column_63 rfl ?_
      refine e_icmp_ne (tgt := 71) dX6_column_64 (by decide) (fun c => ?_) (fun c => ?_)
      · replace h := h.1 c
        refine e_iconst dX6_column_71 (by unfold InR; decide) ?_
        exact e_ireturn dX6_column_72 rfl ⟨_, rfl, h⟩
      · replace h := h.2 c
        refine e_iload_n 2 dX6_column_67 rfl ?_
        refine e_goto (tgt := 72) dX6_column_68 (by decide) ?_
        exact e_ireturn dX6_column_72 rfl ⟨_, rfl, h⟩
  · replace h := h.2 c
    refine e_iload_n 2 dX6_column_17 rfl ?_
    refine e_iload_n 3 dX6_column_18 rfl ?_
    refine e_iadd dX6_column_19 ?_
    refine e_iconst dX6_column_20 (by unfold InR; decide) ?_
    refine e_iushr dX6_column_21 ?_
    refine e_istore (ls2 := [(4, vI (iushr (w32 (x2 + x3)) 1)), (0, vR x0), (1, vI x1), (2, vI x2), (3, vI x3)]) dX6_column_22 (by decide) rfl ?_
    refine e_aload_n 1 dX6_column_24 rfl ?_
    have o7 := h.1
    replace h := h.2
    refine e_getR dX6_column_25 flX6_28 rfl o7 ?_
    refine e_iload 0 dX6_column_28 rfl ?_
    have o8 := h.1
    replace h := h.2
    have o9 := h.1
    replace h := h.2
    refine e_iald dX6_column_30 o8 o9 ?_
    refine e_iload_n 2 dX6_column_31 rfl ?_
    refine e_icmp_ge (tgt := 43) dX6_column_32 (by decide) (fun c => ?_) (fun c => ?_)
    · replace h := h.1 c
      refine e_iload 0 dX6_column_43 rfl ?_
      refine e_istore_n (ls2 := [(3, vI (iushr (w32 (x2 + x3)) 1)), (4, vI (iushr (w32 (x2 + x3)) 1)), (0, vR x0), (1, vI x1), (2, vI x2)]) dX6_column_45 (by decide) rfl ?_
      refine e_goto (tgt := 12) dX6_column_46 (by decide) ?_
      exact e_sub (ls2 := [(0, vR x0), (1, vI x1), (2, vI x2), (3, vI (iushr (w32 (x2 + x3)) 1))]) [2, 3, 4, 0] rfl h
    · replace h := h.2 c
      refine e_iload 0 dX6_column_35 rfl ?_
      refine e_iconst dX6_column_37 (by unfold InR; decide) ?_
      refine e_iadd dX6_column_38 ?_
      refine e_istore_n (ls2 := [(2, vI (w32 ((iushr (w32 (x2 + x3)) 1) + 1))), (4, vI (iushr (w32 (x2 + x3)) 1)), (0, vR x0), (1, vI x1), (3, vI x3)]) dX6_column_39 (by decide) rfl ?_
      refine e_goto (tgt := 46) dX6_column_40 (by decide) ?_
      refine e_goto (tgt := 12) dX6_column_46 (by decide) ?_
      exact e_sub (ls2 := [(0, vR x0), (1, vI x1), (2, vI (w32 ((iushr (w32 (x2 + x3)) 1) + 1))), (3, vI x3)]) [2, 3, 0, 4] rfl h

def vX6_mono (I : MI) (R : MR) (x0 : Nat) (x1 : Int) (x2 : Int) (x3 : Int) : Int := (vX3_of (w32 ((w32 ((w32 (x1 * (I (R x0 2) (Int.toNat 0)))) + (w32 (x2 * (I (R x0 2) (Int.toNat 1)))))) + (w32 (x3 * (I (R x0 2) (Int.toNat 2)))))) x1 x2 x3)
def pX6_mono (S : Sh) (R : MR) (x0 : Nat) (x1 : Int) (x2 : Int) (x3 : Int) : Prop := (sT S x0 = 6 ∧ (sT S (R x0 2) = 21 ∧ (((0 : Int) ≤ 0 ∧ 0 < (sL S (R x0 2) : Int)) ∧ (((0 : Int) ≤ 1 ∧ 1 < (sL S (R x0 2) : Int)) ∧ (((0 : Int) ≤ 2 ∧ 2 < (sL S (R x0 2) : Int)) ∧ True)))))
set_option maxRecDepth 100000 in
set_option maxHeartbeats 4000000 in
theorem sX6_mono {G : Gl} {S : Sh} {I : MI} {R : MR} {Q : Sh → MI → MR → Int → Prop} {x0 : Nat} {x1 : Int} {x2 : Int} {x3 : Int} (hp : pX6_mono S R x0 x1 x2 x3) (hq : Q S I R (vX6_mono I R x0 x1 x2 x3)) : CI G MX6_mono [vR x0, vI x1, vI x2, vI x3] S I R Q := by
  show E G MX6_mono 0 [(0, vR x0), (1, vI x1), (2, vI x2), (3, vI x3)] [] S I R (qI Q)
  unfold vX6_mono at hq
  unfold pX6_mono at hp
  refine e_iload_n 1 dX6_mono_0 rfl ?_
  refine e_aload_n 0 dX6_mono_1 rfl ?_
  have o1 := hp.1
  replace hp := hp.2
  refine e_getR dX6_mono_2 flX6_24 rfl o1 ?_
  refine e_iconst dX6_mono_5 (by unfold InR; decide) ?_
  have o2 := hp.1
  replace hp := hp.2
  have o3 := hp.1
  replace hp := hp.2
  refine e_iald dX6_mono_6 o2 o3 ?_
  refine e_imul dX6_mono_7 ?_
  refine e_iload_n 2 dX6_mono_8 rfl ?_
  refine e_aload_n 0 dX6_mono_9 rfl ?_
  refine e_getR dX6_mono_10 flX6_24 rfl o1 ?_
  refine e_iconst dX6_mono_13 (by unfold InR; decide) ?_
  have o4 := hp.1
  replace hp := hp.2
  refine e_iald dX6_mono_14 o2 o4 ?_
  refine e_imul dX6_mono_15 ?_
  refine e_iadd dX6_mono_16 ?_
  refine e_iload_n 3 dX6_mono_17 rfl ?_
  refine e_aload_n 0 dX6_mono_18 rfl ?_
  refine e_getR dX6_mono_19 flX6_24 rfl o1 ?_
  refine e_iconst dX6_mono_22 (by unfold InR; decide) ?_
  have o5 := hp.1
  replace hp := hp.2
  refine e_iald dX6_mono_23 o2 o5 ?_
  refine e_imul dX6_mono_24 ?_
  refine e_iadd dX6_mono_25 ?_
  refine e_iload_n 1 dX6_mono_26 rfl ?_
  refine e_iload_n 2 dX6_mono_27 rfl ?_
  refine e_iload_n 3 dX6_mono_28 rfl ?_
  refine i_SI (μ' := MX3_of) (as := [vI (w32 ((w32 ((w32 (x1 * (I (R x0 2) (Int.toNat 0)))) + (w32 (x2 * (I (R x0 2) (Int.toNat 1)))))) + (w32 (x3 * (I (R x0 2) (Int.toNat 2)))))), vI x1, vI x2, vI x3]) (st := []) rfl dX6_mono_29 mOKX3_of ⟨mlX6_62, stX3_of⟩ (by decide) (Nat.le_of_ble_eq_true rfl) rfl (Nat.le_of_ble_eq_true rfl) (sX3_of ?_)
  exact e_ireturn dX6_mono_32 rfl ⟨_, rfl, hq⟩

def LX6_listDegree_2 (G : Gl) (x0 : Nat) (x1 : Int) (x2 : Int) (S : Sh) (I : MI) (R : MR) (Q : Sh → MI → MR → Prop) : Prop := E G MX6_listDegree 2 [(0, vR x0), (1, vI x1), (2, vI x2)] [] S I R (qV Q)
def LX6_listDegree_20 (G : Gl) (x0 : Nat) (x1 : Int) (x2 : Int) (x3 : Int) (S : Sh) (I : MI) (R : MR) (Q : Sh → MI → MR → Prop) : Prop := E G MX6_listDegree 20 [(0, vR x0), (1, vI x1), (2, vI x2), (3, vI x3)] [] S I R (qV Q)
def LX6_listDegree_39 (G : Gl) (x0 : Nat) (x1 : Int) (x2 : Int) (x3 : Int) (x4 : Int) (S : Sh) (I : MI) (R : MR) (Q : Sh → MI → MR → Prop) : Prop := E G MX6_listDegree 39 [(0, vR x0), (1, vI x1), (2, vI x2), (3, vI x3), (4, vI x4)] [] S I R (qV Q)
set_option maxRecDepth 100000 in
set_option maxHeartbeats 4000000 in
theorem bX6_listDegree {G : Gl} {S : Sh} {I : MI} {R : MR} {Q : Sh → MI → MR → Prop} {x0 : Nat} {x1 : Int} (h : LX6_listDegree_2 G x0 x1 x1 S I R Q) : CV G MX6_listDegree [vR x0, vI x1] S I R Q := by
  show E G MX6_listDegree 0 [(0, vR x0), (1, vI x1)] [] S I R (qV Q)
  refine e_iload_n 1 dX6_listDegree_0 rfl ?_
  refine e_istore_n (ls2 := [(2, vI x1), (0, vR x0), (1, vI x1)]) dX6_listDegree_1 (by decide) rfl ?_
  exact e_sub (ls2 := [(0, vR x0), (1, vI x1), (2, vI x1)]) [1, 2, 0] rfl h
set_option maxRecDepth 100000 in
set_option maxHeartbeats 4000000 in
theorem bX6_listDegree_2 {G : Gl} {S : Sh} {I : MI} {R : MR} {Q : Sh → MI → MR → Prop} {x0 : Nat} {x1 : Int} {x2 : Int} (h : ((x2 < 0 → Q S I R) ∧ (¬ (x2 < 0) → (sT S x0 = 6 ∧ (((I x0 0) ≤ 1 → LX6_listDegree_20 G x0 x1 x2 0 S I R Q) ∧ (¬ ((I x0 0) ≤ 1) → LX6_listDegree_20 G x0 x1 x2 x1 S I R Q)))))) : LX6_listDegree_2 G x0 x1 x2 S I R Q := by
  show E G MX6_listDegree 2 [(0, vR x0), (1, vI x1), (2, vI x2)] [] S I R (qV Q)
  refine e_iload_n 2 dX6_listDegree_2 rfl ?_
  refine e_if_lt (tgt := 112) dX6_listDegree_3 (by decide) (fun c => ?_) (fun c => ?_)
  · replace h := h.1 c
    exact e_return dX6_listDegree_112 rfl ⟨rfl, h⟩
  · replace h := h.2 c
    refine e_aload_n 0 dX6_listDegree_6 rfl ?_
    have o1 := h.1
    replace h := h.2
    refine e_getI dX6_listDegree_7 flX6_9 rfl o1 ?_
    refine e_iconst dX6_listDegree_10 (by unfold InR; decide) ?_
    refine e_icmp_le (tgt := 18) dX6_listDegree_11 (by decide) (fun c => ?_) (fun c => ?_)
    · replace h := h.1 c
      refine e_iconst dX6_listDegree_18 (by unfold InR; decide) ?_
      refine e_istore_n (ls2 := [(3, vI 0), (0, vR x0), (1, vI x1), (2, vI x2)]) dX6_listDegree_19 (by decide) rfl ?_
      exact e_sub (ls2 := [(0, vR x0), (1, vI x1), (2, vI x2), (3, vI 0)]) [1, 2, 3, 0] rfl h
    · replace h := h.2 c
      refine e_iload_n 1 dX6_listDegree_14 rfl ?_
      refine e_goto (tgt := 19) dX6_listDegree_15 (by decide) ?_
      refine e_istore_n (ls2 := [(3, vI x1), (0, vR x0), (1, vI x1), (2, vI x2)]) dX6_listDegree_19 (by decide) rfl ?_
      exact e_sub (ls2 := [(0, vR x0), (1, vI x1), (2, vI x2), (3, vI x1)]) [1, 2, 3, 0] rfl h
set_option maxRecDepth 100000 in
set_option maxHeartbeats 4000000 in
theorem bX6_listDegree_20 {G : Gl} {S : Sh} {I : MI} {R : MR} {Q : Sh → MI → MR → Prop} {x0 : Nat} {x1 : Int} {x2 : Int} {x3 : Int} (h : ((x3 < 0 → LX6_listDegree_2 G x0 x1 (w32 (x2 + (-1))) S I R Q) ∧ (¬ (x3 < 0) → (sT S x0 = 6 ∧ (((I x0 0) ≤ 2 → LX6_listDegree_39 G x0 x1 x2 x3 0 S I R Q) ∧ (¬ ((I x0 0) ≤ 2) → LX6_listDegree_39 G x0 x1 x2 x3 x1 S I R Q)))))) : LX6_listDegree_20 G x0 x1 x2 x3 S I R Q := by
  show E G MX6_listDegree 20 [(0, vR x0), (1, vI x1), (2, vI x2), (3, vI x3)] [] S I R (qV Q)
  refine e_iload_n 3 dX6_listDegree_20 rfl ?_
  refine e_if_lt (tgt := 106) dX6_listDegree_21 (by decide) (fun c => ?_) (fun c => ?_)
  · replace h := h.1 c
    refine e_iinc (ls2 := [(2, vI (w32 (x2 + (-1)))), (0, vR x0), (1, vI x1), (3, vI x3)]) 2 dX6_listDegree_106 rfl (by decide) rfl ?_
    refine e_goto (tgt := 2) dX6_listDegree_109 (by decide) ?_
    exact e_sub (ls2 := [(0, vR x0), (1, vI x1), (2, vI (w32 (x2 + (-1))))]) [1, 2, 0] rfl h
  · replace h := h.2 c
    refine e_aload_n 0 dX6_listDegree_24 rfl ?_
    have o2 := h.1
    replace h := h.2
    refine e_getI dX6_listDegree_25 flX6_9 rfl o2 ?_
    refine e_iconst dX6_listDegree_28 (by unfold InR; decide) ?_
    refine e_icmp_le (tgt := 36) dX6_listDegree_29 (by decide) (fun c => ?_) (fun c => ?_)
    · replace h := h.1 c
      refine e_iconst dX6_listDegree_36 (by unfold InR; decide) ?_
      refine e_istore (ls2 := [(4, vI 0), (0, vR x0), (1, vI x1), (2, vI x2), (3, vI x3)]) dX6_listDegree_37 (by decide) rfl ?_
      exact e_sub (ls2 := [(0, vR x0), (1, vI x1), (2, vI x2), (3, vI x3), (4, vI 0)]) [1, 2, 3, 4, 0] rfl h
    · replace h := h.2 c
      refine e_iload_n 1 dX6_listDegree_32 rfl ?_
      refine e_goto (tgt := 37) dX6_listDegree_33 (by decide) ?_
      refine e_istore (ls2 := [(4, vI x1), (0, vR x0), (1, vI x1), (2, vI x2), (3, vI x3)]) dX6_listDegree_37 (by decide) rfl ?_
      exact e_sub (ls2 := [(0, vR x0), (1, vI x1), (2, vI x2), (3, vI x3), (4, vI x1)]) [1, 2, 3, 4, 0] rfl h
set_option maxRecDepth 100000 in
set_option maxHeartbeats 4000000 in
theorem bX6_listDegree_39 {G : Gl} {S : Sh} {I : MI} {R : MR} {Q : Sh → MI → MR → Prop} {x0 : Nat} {x1 : Int} {x2 : Int} {x3 : Int} {x4 : Int} (h : ((x4 < 0 → LX6_listDegree_20 G x0 x1 x2 (w32 (x3 + (-1))) S I R Q) ∧ (¬ (x4 < 0) → (sT S x0 = 6 ∧ ((pX6_mono S R x0 x2 x3 x4) ∧ (((vX3_degree (vX6_mono I R x0 x2 x3 x4)) ≠ x1 → LX6_listDegree_39 G x0 x1 x2 x3 (w32 (x4 + (-1))) S I R Q) ∧ (¬ ((vX3_degree (vX6_mono I R x0 x2 x3 x4)) ≠ x1) → ((165 ≤ (I x0 6) → LX6_listDegree_39 G x0 x1 x2 x3 (w32 (x4 + (-1))) S I R Q) ∧ (¬ (165 ≤ (I x0 6)) → (sT S (R x0 3) = 21 ∧ (((0 : Int) ≤ (I x0 6) ∧ (I x0 6) < (sL S (R x0 3) : Int)) ∧ (∀ I83, I83 = up2 I (R x0 3) (Int.toNat (I x0 6)) (vX6_mono I R x0 x2 x3 x4) → (∀ I91, I91 = up2 I83 x0 6 (w32 ((I83 x0 6) + 1)) → LX6_listDegree_39 G x0 x1 x2 x3 (w32 (x4 + (-1))) S I91 R Q))))))))))))) : LX6_listDegree_39 G x0 x1 x2 x3 x4 S I R Q := by
  show E G MX6_listDegree 39 [(0, vR x0), (1, vI x1), (2, vI x2), (3, vI x3), (4, vI x4)] [] S I R (qV Q)
  refine e_iload 4 dX6_listDegree_39 rfl ?_
  refine e_if_lt (tgt := 100) dX6_listDegree_41 (by decide) (fun c => ?_) (fun c => ?_)
  · replace h := h.1 c
    refine e_iinc (ls2 := [(3, vI (w32 (x3 + (-1)))), (0, vR x0), (1, vI x1), (2, vI x2), (4, vI x4)]) 3 dX6_listDegree_100 rfl (by decide) rfl ?_
    refine e_goto (tgt := 20) dX6_listDegree_103 (by decide) ?_
    exact e_sub (ls2 := [(0, vR x0), (1, vI x1), (2, vI x2), (3, vI (w32 (x3 + (-1))))]) [1, 2, 3, 0] rfl h
  · replace h := h.2 c
    refine e_aload_n 0 dX6_listDegree_44 rfl ?_
    refine e_iload_n 2 dX6_listDegree_45 rfl ?_
    refine e_iload_n 3 dX6_listDegree_46 rfl ?_
    refine e_iload 4 dX6_listDegree_47 rfl ?_
    have o3 := h.1
    replace h := h.2
    have o4 := h.1
    replace h := h.2
    refine i_VI (μ' := MX6_mono) (ci := 5) (r := x0) (as := [vI x2, vI x3, vI x4]) (st := []) rfl dX6_listDegree_49 mOKX6_mono ⟨mlX6_68, imX6_mono, seX6_mono⟩ (by decide) (Nat.le_of_ble_eq_true rfl) rfl (Nat.le_of_ble_eq_true rfl) ⟨by decide, rfl⟩ o3 (sX6_mono o4 ?_)
    refine e_istore (ls2 := [(5, vI (vX6_mono I R x0 x2 x3 x4)), (0, vR x0), (1, vI x1), (2, vI x2), (3, vI x3), (4, vI x4)]) dX6_listDegree_52 (by decide) rfl ?_
    refine e_iload 0 dX6_listDegree_54 rfl ?_
    refine i_SI (μ' := MX3_degree) (as := [vI (vX6_mono I R x0 x2 x3 x4)]) (st := []) rfl dX6_listDegree_56 mOKX3_degree ⟨mlX6_78, stX3_degree⟩ (by decide) (Nat.le_of_ble_eq_true rfl) rfl (Nat.le_of_ble_eq_true rfl) (sX3_degree ?_)
    refine e_iload_n 2 dX6_listDegree_59 rfl ?_
    refine e_icmp_ne (tgt := 94) dX6_listDegree_60 (by decide) (fun c => ?_) (fun c => ?_)
    · replace h := h.1 c
      refine e_iinc (ls2 := [(4, vI (w32 (x4 + (-1)))), (5, vI (vX6_mono I R x0 x2 x3 x4)), (0, vR x0), (1, vI x1), (2, vI x2), (3, vI x3)]) 5 dX6_listDegree_94 rfl (by decide) rfl ?_
      refine e_goto (tgt := 39) dX6_listDegree_97 (by decide) ?_
      exact e_sub (ls2 := [(0, vR x0), (1, vI x1), (2, vI x2), (3, vI x3), (4, vI (w32 (x4 + (-1))))]) [2, 3, 4, 5, 0] rfl h
    · replace h := h.2 c
      refine e_aload_n 1 dX6_listDegree_63 rfl ?_
      refine e_getI dX6_listDegree_64 flX6_47 rfl o3 ?_
      refine e_sipush (x := 165) dX6_listDegree_67 ⟨by decide +kernel, by unfold InR; decide⟩ ?_
      refine e_icmp_ge (tgt := 94) dX6_listDegree_70 (by decide) (fun c => ?_) (fun c => ?_)
      · replace h := h.1 c
        refine e_iinc (ls2 := [(4, vI (w32 (x4 + (-1)))), (5, vI (vX6_mono I R x0 x2 x3 x4)), (0, vR x0), (1, vI x1), (2, vI x2), (3, vI x3)]) 5 dX6_listDegree_94 rfl (by decide) rfl ?_
        refine e_goto (tgt := 39) dX6_listDegree_97 (by decide) ?_
        exact e_sub (ls2 := [(0, vR x0), (1, vI x1), (2, vI x2), (3, vI x3), (4, vI (w32 (x4 + (-1))))]) [2, 3, 4, 5, 0] rfl h
      · replace h := h.2 c
        refine e_aload_n 1 dX6_listDegree_73 rfl ?_
        refine e_getR dX6_listDegree_74 flX6_28 rfl o3 ?_
        refine e_aload_n 1 dX6_listDegree_77 rfl ?_
        refine e_getI dX6_listDegree_78 flX6_47 rfl o3 ?_
        refine e_iload 0 dX6_listDegree_81 rfl ?_
        have o5 := h.1
        replace h := h.2
        have o6 := h.1
        replace h := h.2
        obtain ⟨I83, eI83⟩ : ∃ z : MI, z = up2 I (R x0 3) (Int.toNat (I x0 6)) (vX6_mono I R x0 x2 x3 x4) := ⟨_, rfl⟩
        replace h := h I83 eI83
        refine e_iast dX6_listDegree_83 o5 o6 (eqI eI83 ?_)
        refine e_aload_n 1 dX6_listDegree_84 rfl ?_
        refine e_dup dX6_listDegree_85 rfl ?_
        refine e_getI dX6_listDegree_86 flX6_47 rfl o3 ?_
        refine e_iconst dX6_listDegree_89 (by unfold InR; decide) ?_
        refine e_iadd dX6_listDegree_90 ?_
        obtain ⟨I91, eI91⟩ : ∃ z : MI, z = up2 I83 x0 6 (w32 ((I83 x0 6) + 1)) := ⟨_, rfl⟩
        replace h := h I91 eI91
        refine e_putI dX6_listDegree_91 flX6_47 rfl (Or.inl rfl) o3 (eqI eI91 ?_)
        refine e_iinc (ls2 := [(4, vI (w32 (x4 + (-1)))), (5, vI (vX6_mono I R x0 x2 x3 x4)), (0, vR x0), (1, vI x1), (2, vI x2), (3, vI x3)]) 5 dX6_listDegree_94 rfl (by decide) rfl ?_
        refine e_goto (tgt := 39) dX6_listDegree_97 (by decide) ?_
        exact e_sub (ls2 := [(0, vR x0), (1, vI x1), (2, vI x2), (3, vI x3), (4, vI (w32 (x4 + (-1))))]) [2, 3, 4, 5, 0] rfl h

def vX6_variable (I : MI) (R : MR) (x0 : Nat) (x1 : Int) : Int := (if x1 ≠ 0 then (if x1 ≠ 1 then (if x1 ≠ 2 then (vX6_mono I R x0 0 0 0) else (vX6_mono I R x0 0 0 1)) else (if x1 ≠ 2 then (vX6_mono I R x0 0 1 0) else (vX6_mono I R x0 0 1 1))) else (if x1 ≠ 1 then (if x1 ≠ 2 then (vX6_mono I R x0 1 0 0) else (vX6_mono I R x0 1 0 1)) else (if x1 ≠ 2 then (vX6_mono I R x0 1 1 0) else (vX6_mono I R x0 1 1 1))))
def pX6_variable (S : Sh) (R : MR) (x0 : Nat) (x1 : Int) : Prop := ((x1 ≠ 0 → ((x1 ≠ 1 → ((x1 ≠ 2 → (sT S x0 = 6 ∧ ((pX6_mono S R x0 0 0 0) ∧ True))) ∧ (¬ (x1 ≠ 2) → (sT S x0 = 6 ∧ ((pX6_mono S R x0 0 0 1) ∧ True))))) ∧ (¬ (x1 ≠ 1) → ((x1 ≠ 2 → (sT S x0 = 6 ∧ ((pX6_mono S R x0 0 1 0) ∧ True))) ∧ (¬ (x1 ≠ 2) → (sT S x0 = 6 ∧ ((pX6_mono S R x0 0 1 1) ∧ True))))))) ∧ (¬ (x1 ≠ 0) → ((x1 ≠ 1 → ((x1 ≠ 2 → (sT S x0 = 6 ∧ ((pX6_mono S R x0 1 0 0) ∧ True))) ∧ (¬ (x1 ≠ 2) → (sT S x0 = 6 ∧ ((pX6_mono S R x0 1 0 1) ∧ True))))) ∧ (¬ (x1 ≠ 1) → ((x1 ≠ 2 → (sT S x0 = 6 ∧ ((pX6_mono S R x0 1 1 0) ∧ True))) ∧ (¬ (x1 ≠ 2) → (sT S x0 = 6 ∧ ((pX6_mono S R x0 1 1 1) ∧ True))))))))
set_option maxRecDepth 100000 in
set_option maxHeartbeats 4000000 in
theorem sX6_variable {G : Gl} {S : Sh} {I : MI} {R : MR} {Q : Sh → MI → MR → Int → Prop} {x0 : Nat} {x1 : Int} (hp : pX6_variable S R x0 x1) (hq : Q S I R (vX6_variable I R x0 x1)) : CI G MX6_variable [vR x0, vI x1] S I R Q := by
  show E G MX6_variable 0 [(0, vR x0), (1, vI x1)] [] S I R (qI Q)
  unfold vX6_variable at hq
  unfold pX6_variable at hp
  refine e_aload_n 0 dX6_variable_0 rfl ?_
  refine e_iload_n 1 dX6_variable_1 rfl ?_
  refine e_if_ne (tgt := 9) dX6_variable_2 (by decide) (fun c => ?_) (fun c => ?_)
  · rw [if_pos c] at hq
    replace hp := hp.1 c
    refine e_iconst dX6_variable_9 (by unfold InR; decide) ?_
    refine e_iload_n 1 dX6_variable_10 rfl ?_
    refine e_iconst dX6_variable_11 (by unfold InR; decide) ?_
    refine e_icmp_ne (tgt := 19) dX6_variable_12 (by decide) (fun c => ?_) (fun c => ?_)
    · rw [if_pos c] at hq
      replace hp := hp.1 c
      refine e_iconst dX6_variable_19 (by unfold InR; decide) ?_
      refine e_iload_n 1 dX6_variable_20 rfl ?_
      refine e_iconst dX6_variable_21 (by unfold InR; decide) ?_
      refine e_icmp_ne (tgt := 29) dX6_variable_22 (by decide) (fun c => ?_) (fun c => ?_)
      · rw [if_pos c] at hq
        replace hp := hp.1 c
        refine e_iconst dX6_variable_29 (by unfold InR; decide) ?_
        have o1 := hp.1
        replace hp := hp.2
        have o2 := hp.1
        replace hp := hp.2
        refine i_VI (μ' := MX6_mono) (ci := 5) (r := x0) (as := [vI 0, vI 0, vI 0]) (st := []) rfl dX6_variable_30 mOKX6_mono ⟨mlX6_68, imX6_mono, seX6_mono⟩ (by decide) (Nat.le_of_ble_eq_true rfl) rfl (Nat.le_of_ble_eq_true rfl) ⟨by decide, rfl⟩ o1 (sX6_mono o2 ?_)
        exact e_ireturn dX6_variable_33 rfl ⟨_, rfl, hq⟩
      · rw [if_neg c] at hq
        replace hp := hp.2 c
        refine e_iconst dX6_variable_25 (by unfold InR; decide) ?_
        refine e_goto (tgt := 30) dX6_variable_26 (by decide) ?_
        have o3 := hp.1
        replace hp := hp.2
        have o4 := hp.1
        replace hp := hp.2
        refine i_VI (μ' := MX6_mono) (ci := 5) (r := x0) (as := [vI 0, vI 0, vI 1]) (st := []) rfl dX6_variable_30 mOKX6_mono ⟨mlX6_68, imX6_mono, seX6_mono⟩ (by decide) (Nat.le_of_ble_eq_true rfl) rfl (Nat.le_of_ble_eq_true rfl) ⟨by decide, rfl⟩ o3 (sX6_mono o4 ?_)
        exact e_ireturn dX6_variable_33 rfl ⟨_, rfl, hq⟩
    · rw [if_neg c] at hq
      replace hp := hp.2 c
      refine e_iconst dX6_variable_15 (by unfold InR; decide) ?_
      refine e_goto (tgt := 20) dX6_variable_16 (by decide) ?_
      refine e_iload_n 1 dX6_variable_20 rfl ?_
      refine e_iconst dX6_variable_21 (by unfold InR; decide) ?_
      refine e_icmp_ne (tgt := 29) dX6_variable_22 (by decide) (fun c => ?_) (fun c => ?_)
      · rw [if_pos c] at hq
        replace hp := hp.1 c
        refine e_iconst dX6_variable_29 (by unfold InR; decide) ?_
        have o5 := hp.1
        replace hp := hp.2
        have o6 := hp.1
        replace hp := hp.2
        refine i_VI (μ' := MX6_mono) (ci := 5) (r := x0) (as := [vI 0, vI 1, vI 0]) (st := []) rfl dX6_variable_30 mOKX6_mono ⟨mlX6_68, imX6_mono, seX6_mono⟩ (by decide) (Nat.le_of_ble_eq_true rfl) rfl (Nat.le_of_ble_eq_true rfl) ⟨by decide, rfl⟩ o5 (sX6_mono o6 ?_)
        exact e_ireturn dX6_variable_33 rfl ⟨_, rfl, hq⟩
      · rw [if_neg c] at hq
        replace hp := hp.2 c
        refine e_iconst dX6_variable_25 (by unfold InR; decide) ?_
        refine e_goto (tgt := 30) dX6_variable_26 (by decide) ?_
        have o7 := hp.1
        replace hp := hp.2
        have o8 := hp.1
        replace hp := hp.2
        refine i_VI (μ' := MX6_mono) (ci := 5) (r := x0) (as := [vI 0, vI 1, vI 1]) (st := []) rfl dX6_variable_30 mOKX6_mono ⟨mlX6_68, imX6_mono, seX6_mono⟩ (by decide) (Nat.le_of_ble_eq_true rfl) rfl (Nat.le_of_ble_eq_true rfl) ⟨by decide, rfl⟩ o7 (sX6_mono o8 ?_)
        exact e_ireturn dX6_variable_33 rfl ⟨_, rfl, hq⟩
  · rw [if_neg c] at hq
    replace hp := hp.2 c
    refine e_iconst dX6_variable_5 (by unfold InR; decide) ?_
    refine e_goto (tgt := 10) dX6_variable_6 (by decide) ?_
    refine e_iload_n 1 dX6_variable_10 rfl ?_
    refine e_iconst dX6_variable_11 (by unfold InR; decide) ?_
    refine e_icmp_ne (tgt := 19) dX6_variable_12 (by decide) (fun c => ?_) (fun c => ?_)
    · rw [if_pos c] at hq
      replace hp := hp.1 c
      refine e_iconst dX6_variable_19 (by unfold InR; decide) ?_
      refine e_iload_n 1 dX6_variable_20 rfl ?_
      refine e_iconst dX6_variable_21 (by unfold InR; decide) ?_
      refine e_icmp_ne (tgt := 29) dX6_variable_22 (by decide) (fun c => ?_) (fun c => ?_)
      · rw [if_pos c] at hq
        replace hp := hp.1 c
        refine e_iconst dX6_variable_29 (by unfold InR; decide) ?_
        have o9 := hp.1
        replace hp := hp.2
        have o10 := hp.1
        replace hp := hp.2
        refine i_VI (μ' := MX6_mono) (ci := 5) (r := x0) (as := [vI 1, vI 0, vI 0]) (st := []) rfl dX6_variable_30 mOKX6_mono ⟨mlX6_68, imX6_mono, seX6_mono⟩ (by decide) (Nat.le_of_ble_eq_true rfl) rfl (Nat.le_of_ble_eq_true rfl) ⟨by decide, rfl⟩ o9 (sX6_mono o10 ?_)
        exact e_ireturn dX6_variable_33 rfl ⟨_, rfl, hq⟩
      · rw [if_neg c] at hq
        replace hp := hp.2 c
        refine e_iconst dX6_variable_25 (by unfold InR; decide) ?_
        refine e_goto (tgt := 30) dX6_variable_26 (by decide) ?_
        have o11 := hp.1
        replace hp := hp.2
        have o12 := hp.1
        replace hp := hp.2
        refine i_VI (μ' := MX6_mono) (ci := 5) (r := x0) (as := [vI 1, vI 0, vI 1]) (st := []) rfl dX6_variable_30 mOKX6_mono ⟨mlX6_68, imX6_mono, seX6_mono⟩ (by decide) (Nat.le_of_ble_eq_true rfl) rfl (Nat.le_of_ble_eq_true rfl) ⟨by decide, rfl⟩ o11 (sX6_mono o12 ?_)
        exact e_ireturn dX6_variable_33 rfl ⟨_, rfl, hq⟩
    · rw [if_neg c] at hq
      replace hp := hp.2 c
      refine e_iconst dX6_variable_15 (by unfold InR; decide) ?_
      refine e_goto (tgt := 20) dX6_variable_16 (by decide) ?_
      refine e_iload_n 1 dX6_variable_20 rfl ?_
      refine e_iconst dX6_variable_21 (by unfold InR; decide) ?_
      refine e_icmp_ne (tgt := 29) dX6_variable_22 (by decide) (fun c => ?_) (fun c => ?_)
      · rw [if_pos c] at hq
        replace hp := hp.1 c
        refine e_iconst dX6_variable_29 (by unfold InR; decide) ?_
        have o13 := hp.1
        replace hp := hp.2
        have o14 := hp.1
        replace hp := hp.2
        refine i_VI (μ' := MX6_mono) (ci := 5) (r := x0) (as := [vI 1, vI 1, vI 0]) (st := []) rfl dX6_variable_30 mOKX6_mono ⟨mlX6_68, imX6_mono, seX6_mono⟩ (by decide) (Nat.le_of_ble_eq_true rfl) rfl (Nat.le_of_ble_eq_true rfl) ⟨by decide, rfl⟩ o13 (sX6_mono o14 ?_)
        exact e_ireturn dX6_variable_33 rfl ⟨_, rfl, hq⟩
      · rw [if_neg c] at hq
        replace hp := hp.2 c
        refine e_iconst dX6_variable_25 (by unfold InR; decide) ?_
        refine e_goto (tgt := 30) dX6_variable_26 (by decide) ?_
        have o15 := hp.1
        replace hp := hp.2
        have o16 := hp.1
        replace hp := hp.2
        refine i_VI (μ' := MX6_mono) (ci := 5) (r := x0) (as := [vI 1, vI 1, vI 1]) (st := []) rfl dX6_variable_30 mOKX6_mono ⟨mlX6_68, imX6_mono, seX6_mono⟩ (by decide) (Nat.le_of_ble_eq_true rfl) rfl (Nat.le_of_ble_eq_true rfl) ⟨by decide, rfl⟩ o15 (sX6_mono o16 ?_)
        exact e_ireturn dX6_variable_33 rfl ⟨_, rfl, hq⟩

def LX6_linkProducts_2 (G : Gl) (x0 : Nat) (x1 : Int) (x2 : Int) (S : Sh) (I : MI) (R : MR) (Q : Sh → MI → MR → Prop) : Prop := E G MX6_linkProducts 2 [(0, vR x0), (1, vI x1), (2, vI x2)] [] S I R (qV Q)
set_option maxRecDepth 100000 in
set_option maxHeartbeats 4000000 in
theorem bX6_linkProducts {G : Gl} {S : Sh} {I : MI} {R : MR} {Q : Sh → MI → MR → Prop} {x0 : Nat} {x1 : Int} (h : LX6_linkProducts_2 G x0 x1 0 S I R Q) : CV G MX6_linkProducts [vR x0, vI x1] S I R Q := by
  show E G MX6_linkProducts 0 [(0, vR x0), (1, vI x1)] [] S I R (qV Q)
  refine e_iconst dX6_linkProducts_0 (by unfold InR; decide) ?_
  refine e_istore_n (ls2 := [(2, vI 0), (0, vR x0), (1, vI x1)]) dX6_linkProducts_1 (by decide) rfl ?_
  exact e_sub (ls2 := [(0, vR x0), (1, vI x1), (2, vI 0)]) [1, 2, 0] rfl h
set_option maxRecDepth 100000 in
set_option maxHeartbeats 4000000 in
theorem bX6_linkProducts_2 {G : Gl} {S : Sh} {I : MI} {R : MR} {Q : Sh → MI → MR → Prop} {x0 : Nat} {x1 : Int} {x2 : Int} (h : (sT S x0 = 6 ∧ ((pX6_width S I R x0) ∧ (((vX6_width I R x0) ≤ x2 → Q S I R) ∧ (¬ ((vX6_width I R x0) ≤ x2) → ((120 ≤ x2 → Q S I R) ∧ (¬ (120 ≤ x2) → (sT S (R x0 5) = 27 ∧ (((0 : Int) ≤ x1 ∧ x1 < (sL S (R x0 5) : Int)) ∧ (sT S (R x0 3) = 21 ∧ (((0 : Int) ≤ x2 ∧ x2 < (sL S (R x0 3) : Int)) ∧ ((pX6_variable S R x0 x1) ∧ (CI G MX6_column [vR x0, vI (vX3_times (I (R x0 3) (Int.toNat x2)) (vX6_variable I R x0 x1))] S I R (fun S38 I38 R38 x38_ => (sT S38 (R (R x0 5) (Int.toNat x1)) = 21 ∧ (((0 : Int) ≤ x2 ∧ x2 < (sL S38 (R (R x0 5) (Int.toNat x1)) : Int)) ∧ (∀ I41, I41 = up2 I38 (R (R x0 5) (Int.toNat x1)) (Int.toNat x2) x38_ → LX6_linkProducts_2 G x0 x1 (w32 (x2 + 1)) S38 I41 R38 Q))))))))))))))))) : LX6_linkProducts_2 G x0 x1 x2 S I R Q := by
  show E G MX6_linkProducts 2 [(0, vR x0), (1, vI x1), (2, vI x2)] [] S I R (qV Q)
  refine e_iload_n 2 dX6_linkProducts_2 rfl ?_
  refine e_aload_n 0 dX6_linkProducts_3 rfl ?_
  have o1 := h.1
  replace h := h.2
  have o2 := h.1
  replace h := h.2
  refine i_VI (μ' := MX6_width) (ci := 5) (r := x0) (as := []) (st := [vI x2]) rfl dX6_linkProducts_4 mOKX6_width ⟨mlX6_72, imX6_width, seX6_width⟩ (by decide) (Nat.le_of_ble_eq_true rfl) rfl (Nat.le_of_ble_eq_true rfl) ⟨by decide, rfl⟩ o1 (sX6_width o2 ?_)
  refine e_icmp_ge (tgt := 48) dX6_linkProducts_7 (by decide) (fun c => ?_) (fun c => ?_)
  · replace h := h.1 c
    exact e_return dX6_linkProducts_48 rfl ⟨rfl, h⟩
  · replace h := h.2 c
    refine e_iload_n 2 dX6_linkProducts_10 rfl ?_
    refine e_bipush (x := 120) dX6_linkProducts_11 ⟨by decide +kernel, by unfold InR; decide⟩ ?_
    refine e_icmp_ge (tgt := 48) dX6_linkProducts_13 (by decide) (fun c => ?_) (fun c => ?_)
    · replace h := h.1 c
      exact e_return dX6_linkProducts_48 rfl ⟨rfl, h⟩
    · replace h := h.2 c
      refine e_aload_n 0 dX6_linkProducts_16 rfl ?_
      refine e_getR dX6_linkProducts_17 flX6_36 rfl o1 ?_
      refine e_iload_n 1 dX6_linkProducts_20 rfl ?_
      have o3 := h.1
      replace h := h.2
      have o4 := h.1
      replace h := h.2
      refine e_aald (t := 27) dX6_linkProducts_21 o3 (by decide) (by decide) o4 ?_
      refine e_iload_n 2 dX6_linkProducts_22 rfl ?_
      refine e_aload_n 0 dX6_linkProducts_23 rfl ?_
      refine e_aload_n 0 dX6_linkProducts_24 rfl ?_
      refine e_getR dX6_linkProducts_25 flX6_28 rfl o1 ?_
      refine e_iload_n 2 dX6_linkProducts_28 rfl ?_
      have o5 := h.1
      replace h := h.2
      have o6 := h.1
      replace h := h.2
      refine e_iald dX6_linkProducts_29 o5 o6 ?_
      refine e_aload_n 0 dX6_linkProducts_30 rfl ?_
      refine e_iload_n 1 dX6_linkProducts_31 rfl ?_
      have o7 := h.1
      replace h := h.2
      refine i_VI (μ' := MX6_variable) (ci := 5) (r := x0) (as := [vI x1]) (st := [vI (I (R x0 3) (Int.toNat x2)), vR x0, vI x2, vR (R (R x0 5) (Int.toNat x1))]) rfl dX6_linkProducts_32 mOKX6_variable ⟨mlX6_82, imX6_variable, seX6_variable⟩ (by decide) (Nat.le_of_ble_eq_true rfl) rfl (Nat.le_of_ble_eq_true rfl) ⟨by decide, rfl⟩ o1 (sX6_variable o7 ?_)
      refine i_SI (μ' := MX3_times) (as := [vI (I (R x0 3) (Int.toNat x2)), vI (vX6_variable I R x0 x1)]) (st := [vR x0, vI x2, vR (R (R x0 5) (Int.toNat x1))]) rfl dX6_linkProducts_35 mOKX3_times ⟨mlX6_85, stX3_times⟩ (by decide) (Nat.le_of_ble_eq_true rfl) rfl (Nat.le_of_ble_eq_true rfl) (sX3_times ?_)
      refine i_VI (μ' := MX6_column) (ci := 5) (r := x0) (as := [vI (vX3_times (I (R x0 3) (Int.toNat x2)) (vX6_variable I R x0 x1))]) (st := [vI x2, vR (R (R x0 5) (Int.toNat x1))]) rfl dX6_linkProducts_38 mOKX6_column ⟨mlX6_88, imX6_column, seX6_column⟩ (by decide) (Nat.le_of_ble_eq_true rfl) rfl (Nat.le_of_ble_eq_true rfl) ⟨by decide, rfl⟩ o1 (CI.mono h ?_)
      clear h
      intro S38 I38 R38 x38_ h
      have o8 := h.1
      replace h := h.2
      have o9 := h.1
      replace h := h.2
      obtain ⟨I41, eI41⟩ : ∃ z : MI, z = up2 I38 (R (R x0 5) (Int.toNat x1)) (Int.toNat x2) x38_ := ⟨_, rfl⟩
      replace h := h I41 eI41
      refine e_iast dX6_linkProducts_41 o8 o9 (eqI eI41 ?_)
      refine e_iinc (ls2 := [(2, vI (w32 (x2 + 1))), (0, vR x0), (1, vI x1)]) 2 dX6_linkProducts_42 rfl (by decide) rfl ?_
      refine e_goto (tgt := 2) dX6_linkProducts_45 (by decide) ?_
      exact e_sub (ls2 := [(0, vR x0), (1, vI x1), (2, vI (w32 (x2 + 1)))]) [1, 2, 0] rfl h

def LX6_weigh_29 (G : Gl) (x0 : Nat) (x4 : Int) (S : Sh) (I : MI) (R : MR) (Q : Sh → MI → MR → Prop) : Prop := E G MX6_weigh 29 [(0, vR x0), (4, vI x4)] [] S I R (qV Q)
def LX6_weigh_79 (G : Gl) (x0 : Nat) (x4 : Int) (S : Sh) (I : MI) (R : MR) (Q : Sh → MI → MR → Prop) : Prop := E G MX6_weigh 79 [(0, vR x0), (4, vI x4)] [] S I R (qV Q)
set_option maxRecDepth 100000 in
set_option maxHeartbeats 4000000 in
theorem bX6_weigh {G : Gl} {S : Sh} {I : MI} {R : MR} {Q : Sh → MI → MR → Prop} {x0 : Nat} {x1 : Int} {x2 : Int} {x3 : Int} (h : (sT S x0 = 6 ∧ (sT S (R x0 2) = 21 ∧ (((0 : Int) ≤ 0 ∧ 0 < (sL S (R x0 2) : Int)) ∧ (∀ I6, I6 = up2 I (R x0 2) (Int.toNat 0) x1 → (((0 : Int) ≤ 1 ∧ 1 < (sL S (R x0 2) : Int)) ∧ (∀ I13, I13 = up2 I6 (R x0 2) (Int.toNat 1) x2 → (((0 : Int) ≤ 2 ∧ 2 < (sL S (R x0 2) : Int)) ∧ (∀ I20, I20 = up2 I13 (R x0 2) (Int.toNat 2) x3 → (∀ I23, I23 = up2 I20 x0 6 0 → LX6_weigh_29 G x0 0 S I23 R Q)))))))))) : CV G MX6_weigh [vR x0, vI x1, vI x2, vI x3] S I R Q := by
  show E G MX6_weigh 0 [(0, vR x0), (1, vI x1), (2, vI x2), (3, vI x3)] [] S I R (qV Q)
  refine e_aload_n 0 dX6_weigh_0 rfl ?_
  have o1 := h.1
  replace h := h.2
  refine e_getR dX6_weigh_1 flX6_24 rfl o1 ?_
  refine e_iconst dX6_weigh_4 (by unfold InR; decide) ?_
  refine e_iload_n 1 dX6_weigh_5 rfl ?_
  have o2 := h.1
  replace h := h.2
  have o3 := h.1
  replace h := h.2
  obtain ⟨I6, eI6⟩ : ∃ z : MI, z = up2 I (R x0 2) (Int.toNat 0) x1 := ⟨_, rfl⟩
  replace h := h I6 eI6
  refine e_iast dX6_weigh_6 o2 o3 (eqI eI6 ?_)
  refine e_aload_n 0 dX6_weigh_7 rfl ?_
  refine e_getR dX6_weigh_8 flX6_24 rfl o1 ?_
  refine e_iconst dX6_weigh_11 (by unfold InR; decide) ?_
  refine e_iload_n 2 dX6_weigh_12 rfl ?_
  have o4 := h.1
  replace h := h.2
  obtain ⟨I13, eI13⟩ : ∃ z : MI, z = up2 I6 (R x0 2) (Int.toNat 1) x2 := ⟨_, rfl⟩
  replace h := h I13 eI13
  refine e_iast dX6_weigh_13 o2 o4 (eqI eI13 ?_)
  refine e_aload_n 0 dX6_weigh_14 rfl ?_
  refine e_getR dX6_weigh_15 flX6_24 rfl o1 ?_
  refine e_iconst dX6_weigh_18 (by unfold InR; decide) ?_
  refine e_iload_n 3 dX6_weigh_19 rfl ?_
  have o5 := h.1
  replace h := h.2
  obtain ⟨I20, eI20⟩ : ∃ z : MI, z = up2 I13 (R x0 2) (Int.toNat 2) x3 := ⟨_, rfl⟩
  replace h := h I20 eI20
  refine e_iast dX6_weigh_20 o2 o5 (eqI eI20 ?_)
  refine e_aload_n 0 dX6_weigh_21 rfl ?_
  refine e_iconst dX6_weigh_22 (by unfold InR; decide) ?_
  obtain ⟨I23, eI23⟩ : ∃ z : MI, z = up2 I20 x0 6 0 := ⟨_, rfl⟩
  replace h := h I23 eI23
  refine e_putI dX6_weigh_23 flX6_47 rfl (Or.inl rfl) o1 (eqI eI23 ?_)
  refine e_iconst dX6_weigh_26 (by unfold InR; decide) ?_
  refine e_istore (ls2 := [(4, vI 0), (0, vR x0), (1, vI x1), (2, vI x2), (3, vI x3)]) dX6_weigh_27 (by decide) rfl ?_
  exact e_sub (ls2 := [(0, vR x0), (4, vI 0)]) [1, 0] rfl h
set_option maxRecDepth 100000 in
set_option maxHeartbeats 4000000 in
theorem bX6_weigh_29 {G : Gl} {S : Sh} {I : MI} {R : MR} {Q : Sh → MI → MR → Prop} {x0 : Nat} {x4 : Int} (h : (sT S x0 = 6 ∧ ((pX6_bound S x0) ∧ (((vX6_bound I x0) < x4 → (sT S (R x0 4) = 21 ∧ (((0 : Int) ≤ (w32 ((vX6_bound I x0) + 1)) ∧ (w32 ((vX6_bound I x0) + 1)) < (sL S (R x0 4) : Int)) ∧ (∀ I75, I75 = up2 I (R x0 4) (Int.toNat (w32 ((vX6_bound I x0) + 1))) (I x0 6) → LX6_weigh_79 G x0 0 S I75 R Q)))) ∧ (¬ ((vX6_bound I x0) < x4) → (sT S (R x0 4) = 21 ∧ (((0 : Int) ≤ x4 ∧ x4 < (sL S (R x0 4) : Int)) ∧ (∀ I48, I48 = up2 I (R x0 4) (Int.toNat x4) (I x0 6) → (CV G MX6_listDegree [vR x0, vI x4] S I48 R (fun S52 I52 R52 => LX6_weigh_29 G x0 (w32 (x4 + 1)) S52 I52 R52 Q)))))))))) : LX6_weigh_29 G x0 x4 S I R Q := by
  show E G MX6_weigh 29 [(0, vR x0), (4, vI x4)] [] S I R (qV Q)
  refine e_iload 1 dX6_weigh_29 rfl ?_
  refine e_aload_n 0 dX6_weigh_31 rfl ?_
  have o6 := h.1
  replace h := h.2
  have o7 := h.1
  replace h := h.2
  refine i_VI (μ' := MX6_bound) (ci := 5) (r := x0) (as := []) (st := [vI x4]) rfl dX6_weigh_32 mOKX6_bound ⟨mlX6_43, imX6_bound, seX6_bound⟩ (by decide) (Nat.le_of_ble_eq_true rfl) rfl (Nat.le_of_ble_eq_true rfl) ⟨by decide, rfl⟩ o6 (sX6_bound o7 ?_)
  refine e_icmp_gt (tgt := 61) dX6_weigh_35 (by decide) (fun c => ?_) (fun c => ?_)
  · replace h := h.1 c
    refine e_aload_n 0 dX6_weigh_61 rfl ?_
    refine e_getR dX6_weigh_62 flX6_31 rfl o6 ?_
    refine e_aload_n 0 dX6_weigh_65 rfl ?_
    refine i_VI (μ' := MX6_bound) (ci := 5) (r := x0) (as := []) (st := [vR (R x0 4)]) rfl dX6_weigh_66 mOKX6_bound ⟨mlX6_43, imX6_bound, seX6_bound⟩ (by decide) (Nat.le_of_ble_eq_true rfl) rfl (Nat.le_of_ble_eq_true rfl) ⟨by decide, rfl⟩ o6 (sX6_bound o7 ?_)
    refine e_iconst dX6_weigh_69 (by unfold InR; decide) ?_
    refine e_iadd dX6_weigh_70 ?_
    refine e_aload_n 0 dX6_weigh_71 rfl ?_
    refine e_getI dX6_weigh_72 flX6_47 rfl o6 ?_
    have o8 := h.1
    replace h := h.2
    have o9 := h.1
    replace h := h.2
    obtain ⟨I75, eI75⟩ : ∃ z : MI, z = up2 I (R x0 4) (Int.toNat (w32 ((vX6_bound I x0) + 1))) (I x0 6) := ⟨_, rfl⟩
    replace h := h I75 eI75
    refine e_iast dX6_weigh_75 o8 o9 (eqI eI75 ?_)
    refine e_iconst dX6_weigh_76 (by unfold InR; decide) ?_
    refine e_istore (ls2 := [(4, vI 0), (0, vR x0)]) dX6_weigh_77 (by decide) rfl ?_
    exact e_sub (ls2 := [(0, vR x0), (4, vI 0)]) [1, 0] rfl h
  · replace h := h.2 c
    refine e_aload_n 0 dX6_weigh_38 rfl ?_
    refine e_getR dX6_weigh_39 flX6_31 rfl o6 ?_
    refine e_iload 1 dX6_weigh_42 rfl ?_
    refine e_aload_n 0 dX6_weigh_44 rfl ?_
    refine e_getI dX6_weigh_45 flX6_47 rfl o6 ?_
    have o10 := h.1
    replace h := h.2
    have o11 := h.1
    replace h := h.2
    obtain ⟨I48, eI48⟩ : ∃ z : MI, z = up2 I (R x0 4) (Int.toNat x4) (I x0 6) := ⟨_, rfl⟩
    replace h := h I48 eI48
    refine e_iast dX6_weigh_48 o10 o11 (eqI eI48 ?_)
    refine e_aload_n 0 dX6_weigh_49 rfl ?_
    refine e_iload 1 dX6_weigh_50 rfl ?_
    refine i_VV (μ' := MX6_listDegree) (ci := 5) (r := x0) (as := [vI x4]) (st := []) rfl dX6_weigh_52 mOKX6_listDegree ⟨mlX6_50, imX6_listDegree, seX6_listDegree⟩ (by decide) (Nat.le_of_ble_eq_true rfl) rfl (Nat.le_of_ble_eq_true rfl) ⟨by decide, rfl⟩ o6 (CV.mono h ?_)
    clear h
    intro S52 I52 R52 h
    refine e_iinc (ls2 := [(4, vI (w32 (x4 + 1))), (0, vR x0)]) 1 dX6_weigh_55 rfl (by decide) rfl ?_
    refine e_goto (tgt := 29) dX6_weigh_58 (by decide) ?_
    exact e_sub (ls2 := [(0, vR x0), (4, vI (w32 (x4 + 1)))]) [1, 0] rfl h
set_option maxRecDepth 100000 in
set_option maxHeartbeats 4000000 in
theorem bX6_weigh_79 {G : Gl} {S : Sh} {I : MI} {R : MR} {Q : Sh → MI → MR → Prop} {x0 : Nat} {x4 : Int} (h : (sT S x0 = 6 ∧ (((I x0 0) ≤ x4 → Q S I R) ∧ (¬ ((I x0 0) ≤ x4) → (CV G MX6_linkProducts [vR x0, vI x4] S I R (fun S91 I91 R91 => LX6_weigh_79 G x0 (w32 (x4 + 1)) S91 I91 R91 Q)))))) : LX6_weigh_79 G x0 x4 S I R Q := by
  show E G MX6_weigh 79 [(0, vR x0), (4, vI x4)] [] S I R (qV Q)
  refine e_iload 1 dX6_weigh_79 rfl ?_
  refine e_aload_n 0 dX6_weigh_81 rfl ?_
  have o12 := h.1
  replace h := h.2
  refine e_getI dX6_weigh_82 flX6_9 rfl o12 ?_
  refine e_icmp_ge (tgt := 100) dX6_weigh_85 (by decide) (fun c => ?_) (fun c => ?_)
  · replace h := h.1 c
    exact e_return dX6_weigh_100 rfl ⟨rfl, h⟩
  · replace h := h.2 c
    refine e_aload_n 0 dX6_weigh_88 rfl ?_
    refine e_iload 1 dX6_weigh_89 rfl ?_
    refine i_VV (μ' := MX6_linkProducts) (ci := 5) (r := x0) (as := [vI x4]) (st := []) rfl dX6_weigh_91 mOKX6_linkProducts ⟨mlX6_53, imX6_linkProducts, seX6_linkProducts⟩ (by decide) (Nat.le_of_ble_eq_true rfl) rfl (Nat.le_of_ble_eq_true rfl) ⟨by decide, rfl⟩ o12 (CV.mono h ?_)
    clear h
    intro S91 I91 R91 h
    refine e_iinc (ls2 := [(4, vI (w32 (x4 + 1))), (0, vR x0)]) 1 dX6_weigh_94 rfl (by decide) rfl ?_
    refine e_goto (tgt := 79) dX6_weigh_97 (by decide) ?_
    exact e_sub (ls2 := [(0, vR x0), (4, vI (w32 (x4 + 1)))]) [1, 0] rfl h

set_option maxRecDepth 100000 in
set_option maxHeartbeats 4000000 in
theorem bX6_init {G : Gl} {S : Sh} {I : MI} {R : MR} {Q : Sh → MI → MR → Prop} {x0 : Nat} (h : (sT S x0 ≠ 0 ∧ (sT S x0 = 6 ∧ (∀ I6, I6 = up2 I x0 0 2 → (∀ S10 I10 R10, S10 = shNew S 4 0 1 → I10 = mNew I6 (sN S) 0 → R10 = mNew R (sN S) 0 → (sT S10 (sN S) ≠ 0 ∧ (CV G MX4_init [vR (sN S), vI 32003] S10 I10 R10 (fun S17 I17 R17 => (sT S17 x0 = 6 ∧ (∀ R20, R20 = up2 R17 x0 1 (sN S) → (∀ S25 I25 R25, S25 = shNew S17 21 3 3 → I25 = mNew I17 (sN S17) 0 → R25 = mNew R20 (sN S17) 0 → (sT S25 x0 = 6 ∧ (∀ R27, R27 = up2 R25 x0 2 (sN S17) → (∀ S34 I34 R34, S34 = shNew S25 21 165 165 → I34 = mNew I25 (sN S25) 0 → R34 = mNew R27 (sN S25) 0 → (sT S34 x0 = 6 ∧ (∀ R36, R36 = up2 R34 x0 3 (sN S25) → (∀ S42 I42 R42, S42 = shNew S34 21 26 26 → I42 = mNew I34 (sN S34) 0 → R42 = mNew R36 (sN S34) 0 → (sT S42 x0 = 6 ∧ (∀ R44, R44 = up2 R42 x0 4 (sN S34) → (∀ S51 I51 R51, S51 = shMul S42 3 120 → I51 = iMul I42 (sN S42) 3 → R51 = rMul R44 (sN S42) 3 → (sT S51 x0 = 6 ∧ (∀ R55, R55 = up2 R51 x0 5 (sN S42) → (CV G MX6_weigh [vR x0, vI 1, vI 1, vI 1] S51 I51 R55 (fun S62 I62 R62 => Q S62 I62 R62)))))))))))))))))))))))) : CV G MX6_init [vR x0] S I R Q := by
  show E G MX6_init 0 [(0, vR x0)] [] S I R (qV Q)
  refine e_aload_n 0 dX6_init_0 rfl ?_
  have o1 := h.1
  replace h := h.2
  refine e_objI dX6_init_1 ⟨moX6_3, oc⟩ (by decide) (Nat.le_of_ble_eq_true rfl) o1 ?_
  refine e_aload_n 0 dX6_init_4 rfl ?_
  refine e_iconst dX6_init_5 (by unfold InR; decide) ?_
  have o2 := h.1
  replace h := h.2
  obtain ⟨I6, eI6⟩ : ∃ z : MI, z = up2 I x0 0 2 := ⟨_, rfl⟩
  replace h := h I6 eI6
  refine e_putI dX6_init_6 flX6_9 rfl (Or.inl rfl) o2 (eqI eI6 ?_)
  refine e_aload_n 0 dX6_init_9 rfl ?_
  obtain ⟨S10, eS10⟩ : ∃ z : Sh, z = shNew S 4 0 1 := ⟨_, rfl⟩
  obtain ⟨I10, eI10⟩ : ∃ z : MI, z = mNew I6 (sN S) 0 := ⟨_, rfl⟩
  obtain ⟨R10, eR10⟩ : ∃ z : MR, z = mNew R (sN S) 0 := ⟨_, rfl⟩
  replace h := h S10 I10 R10 eS10 eI10 eR10
  refine e_new (ci := 3) dX6_init_10 (by decide) ⟨clX6_15, is3, ii3⟩ (eqS eS10 (eqI eI10 (eqR eR10 ?_)))
  refine e_dup dX6_init_13 rfl ?_
  refine e_sipush (x := 32003) dX6_init_14 ⟨by decide +kernel, by unfold InR; decide⟩ ?_
  have o3 := h.1
  replace h := h.2
  refine i_IV (μ' := MX4_init) (r := (sN S)) (as := [vI 32003]) (st := [vR (sN S), vR x0]) rfl dX6_init_17 mOKX4_init ⟨mlX6_17, imX4_init⟩ ⟨rfl, rfl⟩ (by decide) (Nat.le_of_ble_eq_true rfl) rfl (Nat.le_of_ble_eq_true rfl) o3 (CV.mono h ?_)
  clear h
  intro S17 I17 R17 h
  have o4 := h.1
  replace h := h.2
  obtain ⟨R20, eR20⟩ : ∃ z : MR, z = up2 R17 x0 1 (sN S) := ⟨_, rfl⟩
  replace h := h R20 eR20
  refine e_putR dX6_init_20 flX6_20 rfl (Or.inl rfl) o4 (eqR eR20 ?_)
  refine e_aload_n 0 dX6_init_23 rfl ?_
  refine e_iconst dX6_init_24 (by unfold InR; decide) ?_
  obtain ⟨S25, eS25⟩ : ∃ z : Sh, z = shNew S17 21 3 3 := ⟨_, rfl⟩
  obtain ⟨I25, eI25⟩ : ∃ z : MI, z = mNew I17 (sN S17) 0 := ⟨_, rfl⟩
  obtain ⟨R25, eR25⟩ : ∃ z : MR, z = mNew R20 (sN S17) 0 := ⟨_, rfl⟩
  replace h := h S25 I25 R25 eS25 eI25 eR25
  refine e_newa (t := 21) (n := 3) dX6_init_25 (Or.inl ⟨rfl, rfl⟩) acint rfl (by decide) (eqS eS25 (eqI eI25 (eqR eR25 ?_)))
  have o5 := h.1
  replace h := h.2
  obtain ⟨R27, eR27⟩ : ∃ z : MR, z = up2 R25 x0 2 (sN S17) := ⟨_, rfl⟩
  replace h := h R27 eR27
  refine e_putR dX6_init_27 flX6_24 rfl (Or.inr ⟨rfl, rfl, rfl⟩) o5 (eqR eR27 ?_)
  refine e_aload_n 0 dX6_init_30 rfl ?_
  refine e_sipush (x := 165) dX6_init_31 ⟨by decide +kernel, by unfold InR; decide⟩ ?_
  obtain ⟨S34, eS34⟩ : ∃ z : Sh, z = shNew S25 21 165 165 := ⟨_, rfl⟩
  obtain ⟨I34, eI34⟩ : ∃ z : MI, z = mNew I25 (sN S25) 0 := ⟨_, rfl⟩
  obtain ⟨R34, eR34⟩ : ∃ z : MR, z = mNew R27 (sN S25) 0 := ⟨_, rfl⟩
  replace h := h S34 I34 R34 eS34 eI34 eR34
  refine e_newa (t := 21) (n := 165) dX6_init_34 (Or.inl ⟨rfl, rfl⟩) acint rfl (by decide) (eqS eS34 (eqI eI34 (eqR eR34 ?_)))
  have o6 := h.1
  replace h := h.2
  obtain ⟨R36, eR36⟩ : ∃ z : MR, z = up2 R34 x0 3 (sN S25) := ⟨_, rfl⟩
  replace h := h R36 eR36
  refine e_putR dX6_init_36 flX6_28 rfl (Or.inr ⟨rfl, rfl, rfl⟩) o6 (eqR eR36 ?_)
  refine e_aload_n 0 dX6_init_39 rfl ?_
  refine e_bipush (x := 26) dX6_init_40 ⟨by decide +kernel, by unfold InR; decide⟩ ?_
  obtain ⟨S42, eS42⟩ : ∃ z : Sh, z = shNew S34 21 26 26 := ⟨_, rfl⟩
  obtain ⟨I42, eI42⟩ : ∃ z : MI, z = mNew I34 (sN S34) 0 := ⟨_, rfl⟩
  obtain ⟨R42, eR42⟩ : ∃ z : MR, z = mNew R36 (sN S34) 0 := ⟨_, rfl⟩
  replace h := h S42 I42 R42 eS42 eI42 eR42
  refine e_newa (t := 21) (n := 26) dX6_init_42 (Or.inl ⟨rfl, rfl⟩) acint rfl (by decide) (eqS eS42 (eqI eI42 (eqR eR42 ?_)))
  have o7 := h.1
  replace h := h.2
  obtain ⟨R44, eR44⟩ : ∃ z : MR, z = up2 R42 x0 4 (sN S34) := ⟨_, rfl⟩
  replace h := h R44 eR44
  refine e_putR dX6_init_44 flX6_31 rfl (Or.inr ⟨rfl, rfl, rfl⟩) o7 (eqR eR44 ?_)
  refine e_aload_n 0 dX6_init_47 rfl ?_
  refine e_iconst dX6_init_48 (by unfold InR; decide) ?_
  refine e_bipush (x := 120) dX6_init_49 ⟨by decide +kernel, by unfold InR; decide⟩ ?_
  obtain ⟨S51, eS51⟩ : ∃ z : Sh, z = shMul S42 3 120 := ⟨_, rfl⟩
  obtain ⟨I51, eI51⟩ : ∃ z : MI, z = iMul I42 (sN S42) 3 := ⟨_, rfl⟩
  obtain ⟨R51, eR51⟩ : ∃ z : MR, z = rMul R44 (sN S42) 3 := ⟨_, rfl⟩
  replace h := h S51 I51 R51 eS51 eI51 eR51
  refine e_mna (n := 3) (k := 120) dX6_init_51 ⟨clX6_34, acint⟩ rfl rfl (by decide) (by decide) (eqS eS51 (eqI eI51 (eqR eR51 ?_)))
  have o8 := h.1
  replace h := h.2
  obtain ⟨R55, eR55⟩ : ∃ z : MR, z = up2 R51 x0 5 (sN S42) := ⟨_, rfl⟩
  replace h := h R55 eR55
  refine e_putR dX6_init_55 flX6_36 rfl (Or.inr ⟨rfl, rfl, rfl⟩) o8 (eqR eR55 ?_)
  refine e_aload_n 0 dX6_init_58 rfl ?_
  refine e_iconst dX6_init_59 (by unfold InR; decide) ?_
  refine e_iconst dX6_init_60 (by unfold InR; decide) ?_
  refine e_iconst dX6_init_61 (by unfold InR; decide) ?_
  refine i_VV (μ' := MX6_weigh) (ci := 5) (r := x0) (as := [vI 1, vI 1, vI 1]) (st := []) rfl dX6_init_62 mOKX6_weigh ⟨mlX6_39, imX6_weigh, seX6_weigh⟩ (by decide) (Nat.le_of_ble_eq_true rfl) rfl (Nat.le_of_ble_eq_true rfl) ⟨by decide, rfl⟩ o8 (CV.mono h ?_)
  clear h
  intro S62 I62 R62 h
  exact e_return dX6_init_65 rfl ⟨rfl, h⟩
