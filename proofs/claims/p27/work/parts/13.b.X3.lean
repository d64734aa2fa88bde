def vX3_isTooHigh  (x0 : Int) : Int := (if (iand (w32 ((iand (ixor x0 (-1)) 262143) + 4161)) 133152) = 0 then 0 else 1)
set_option maxRecDepth 100000 in
set_option maxHeartbeats 4000000 in
theorem sX3_isTooHigh {G : Gl} {S : Sh} {I : MI} {R : MR} {Q : Sh → MI → MR → Int → Prop} {x0 : Int} (hq : Q S I R (vX3_isTooHigh x0)) : CI G MX3_isTooHigh [vI x0] S I R Q := by
  show E G MX3_isTooHigh 0 [(0, vI x0)] [] S I R (qI Q)
  unfold vX3_isTooHigh at hq
  refine e_iload_n 0 dX3_isTooHigh_0 rfl ?_
  refine e_iconst dX3_isTooHigh_1 (by unfold InR; decide) ?_
  refine e_ixor dX3_isTooHigh_2 ?_
  refine e_ldc (x := 262143) dX3_isTooHigh_3 cnX3_13 (by unfold InR; decide) ?_
  refine e_iand dX3_isTooHigh_5 ?_
  refine e_sipush (x := 4161) dX3_isTooHigh_6 ⟨by decide +kernel, by unfold InR; decide⟩ ?_
  refine e_iadd dX3_isTooHigh_9 ?_
  refine e_ldc (x := 133152) dX3_isTooHigh_10 cnX3_18 (by unfold InR; decide) ?_
  refine e_iand dX3_isTooHigh_12 ?_
  refine e_if_eq (tgt := 20) dX3_isTooHigh_13 (by decide) (fun c => ?_) (fun c => ?_)
  · rw [if_pos c] at hq
    refine e_iconst dX3_isTooHigh_20 (by unfold InR; decide) ?_
    exact e_zreturn dX3_isTooHigh_21 rfl (by decide) ⟨_, rfl, hq⟩
  · rw [if_neg c] at hq
    refine e_iconst dX3_isTooHigh_16 (by unfold InR; decide) ?_
    refine e_goto (tgt := 21) dX3_isTooHigh_17 (by decide) ?_
    exact e_zreturn dX3_isTooHigh_21 rfl (by decide) ⟨_, rfl, hq⟩

def vX3_exponent  (x0 : Int) (x1 : Int) : Int := (iand (ishr (iand (ixor x0 (-1)) 262143) (w32 (6 * (w32 (2 - x1))))) 63)
set_option maxRecDepth 100000 in
set_option maxHeartbeats 4000000 in
theorem sX3_exponent {G : Gl} {S : Sh} {I : MI} {R : MR} {Q : Sh → MI → MR → Int → Prop} {x0 : Int} {x1 : Int} (hq : Q S I R (vX3_exponent x0 x1)) : CI G MX3_exponent [vI x0, vI x1] S I R Q := by
  show E G MX3_exponent 0 [(0, vI x0), (1, vI x1)] [] S I R (qI Q)
  unfold vX3_exponent at hq
  refine e_iload_n 0 dX3_exponent_0 rfl ?_
  refine e_iconst dX3_exponent_1 (by unfold InR; decide) ?_
  refine e_ixor dX3_exponent_2 ?_
  refine e_ldc (x := 262143) dX3_exponent_3 cnX3_13 (by unfold InR; decide) ?_
  refine e_iand dX3_exponent_5 ?_
  refine e_bipush (x := 6) dX3_exponent_6 ⟨by decide +kernel, by unfold InR; decide⟩ ?_
  refine e_iconst dX3_exponent_8 (by unfold InR; decide) ?_
  refine e_iload_n 1 dX3_exponent_9 rfl ?_
  refine e_isub dX3_exponent_10 ?_
  refine e_imul dX3_exponent_11 ?_
  refine e_ishr dX3_exponent_12 ?_
  refine e_bipush (x := 63) dX3_exponent_13 ⟨by decide +kernel, by unfold InR; decide⟩ ?_
  refine e_iand dX3_exponent_15 ?_
  exact e_ireturn dX3_exponent_16 rfl ⟨_, rfl, hq⟩

def vX3_divides  (x0 : Int) (x1 : Int) : Int := (if (vX3_exponent x1 0) < (vX3_exponent x0 0) then 0 else (if (vX3_exponent x1 1) < (vX3_exponent x0 1) then 0 else (if (vX3_exponent x1 2) < (vX3_exponent x0 2) then 0 else 1)))
set_option maxRecDepth 100000 in
set_option maxHeartbeats 4000000 in
theorem sX3_divides {G : Gl} {S : Sh} {I : MI} {R : MR} {Q : Sh → MI → MR → Int → Prop} {x0 : Int} {x1 : Int} (hq : Q S I R (vX3_divides x0 x1)) : CI G MX3_divides [vI x0, vI x1] S I R Q := by
  show E G MX3_divides 0 [(0, vI x0), (1, vI x1)] [] S I R (qI Q)
  unfold vX3_divides at hq
  refine e_iload_n 0 dX3_divides_0 rfl ?_
  refine e_iconst dX3_divides_1 (by unfold InR; decide) ?_
  refine i_SI (μ' := MX3_exponent) (as := [vI x0, vI 0]) (st := []) rfl dX3_divides_2 mOKX3_exponent ⟨mlX3_14, stX3_exponent⟩ (by decide) (Nat.le_of_ble_eq_true rfl) rfl (Nat.le_of_ble_eq_true rfl) (sX3_exponent ?_)
  refine e_iload_n 1 dX3_divides_5 rfl ?_
  refine e_iconst dX3_divides_6 (by unfold InR; decide) ?_
  refine i_SI (μ' := MX3_exponent) (as := [vI x1, vI 0]) (st := [vI (vX3_exponent x0 0)]) rfl dX3_divides_7 mOKX3_exponent ⟨mlX3_14, stX3_exponent⟩ (by decide) (Nat.le_of_ble_eq_true rfl) rfl (Nat.le_of_ble_eq_true rfl) (sX3_exponent ?_)
  refine e_icmp_gt (tgt := 43) dX3_divides_10 (by decide) (fun c => ?_) (fun c => ?_)
  · rw [if_pos c] at hq
    refine e_iconst dX3_divides_43 (by unfold InR; decide) ?_
    exact e_zreturn dX3_divides_44 rfl (by decide) ⟨_, rfl, hq⟩
  · rw [if_neg c] at hq
    refine e_iload_n 0 dX3_divides_13 rfl ?_
    refine e_iconst dX3_divides_14 (by unfold InR; decide) ?_
    refine i_SI (μ' := MX3_exponent) (as := [vI x0, vI 1]) (st := []) rfl dX3_divides_15 mOKX3_exponent ⟨mlX3_14, stX3_exponent⟩ (by decide) (Nat.le_of_ble_eq_true rfl) rfl (Nat.le_of_ble_eq_true rfl) (sX3_exponent ?_)
    refine e_iload_n 1 dX3_divides_18 rfl ?_
    refine e_iconst dX3_divides_19 (by unfold InR; decide) ?_
    refine i_SI (μ' := MX3_exponent) (as := [vI x1, vI 1]) (st := [vI (vX3_exponent x0 1)]) rfl dX3_divides_20 mOKX3_exponent ⟨mlX3_14, stX3_exponent⟩ (by decide) (Nat.le_of_ble_eq_true rfl) rfl (Nat.le_of_ble_eq_true rfl) (sX3_exponent ?_)
    refine e_icmp_gt (tgt := 43) dX3_divides_23 (by decide) (fun c => ?_) (fun c => ?_)
    · rw [if_pos c] at hq
      refine e_iconst dX3_divides_43 (by unfold InR; decide) ?_
      exact e_zreturn dX3_divides_44 rfl (by decide) ⟨_, rfl, hq⟩
    · rw [if_neg c] at hq
      refine e_iload_n 0 dX3_divides_26 rfl ?_
      refine e_iconst dX3_divides_27 (by unfold InR; decide) ?_
      refine i_SI (μ' := MX3_exponent) (as := [vI x0, vI 2]) (st := []) rfl dX3_divides_28 mOKX3_exponent ⟨mlX3_14, stX3_exponent⟩ (by decide) (Nat.le_of_ble_eq_true rfl) rfl (Nat.le_of_ble_eq_true rfl) (sX3_exponent ?_)
      refine e_iload_n 1 dX3_divides_31 rfl ?_
      refine e_iconst dX3_divides_32 (by unfold InR; decide) ?_
      refine i_SI (μ' := MX3_exponent) (as := [vI x1, vI 2]) (st := [vI (vX3_exponent x0 2)]) rfl dX3_divides_33 mOKX3_exponent ⟨mlX3_14, stX3_exponent⟩ (by decide) (Nat.le_of_ble_eq_true rfl) rfl (Nat.le_of_ble_eq_true rfl) (sX3_exponent ?_)
      refine e_icmp_gt (tgt := 43) dX3_divides_36 (by decide) (fun c => ?_) (fun c => ?_)
      · rw [if_pos c] at hq
        refine e_iconst dX3_divides_43 (by unfold InR; decide) ?_
        exact e_zreturn dX3_divides_44 rfl (by decide) ⟨_, rfl, hq⟩
      · rw [if_neg c] at hq
        refine e_iconst dX3_divides_39 (by unfold InR; decide) ?_
        refine e_goto (tgt := 44) dX3_divides_40 (by decide) ?_
        exact e_zreturn dX3_divides_44 rfl (by decide) ⟨_, rfl, hq⟩

def vX3_degree  (x0 : Int) : Int := (ishr x0 18)
set_option maxRecDepth 100000 in
set_option maxHeartbeats 4000000 in
theorem sX3_degree {G : Gl} {S : Sh} {I : MI} {R : MR} {Q : Sh → MI → MR → Int → Prop} {x0 : Int} (hq : Q S I R (vX3_degree x0)) : CI G MX3_degree [vI x0] S I R Q := by
  show E G MX3_degree 0 [(0, vI x0)] [] S I R (qI Q)
  unfold vX3_degree at hq
  refine e_iload_n 0 dX3_degree_0 rfl ?_
  refine e_bipush (x := 18) dX3_degree_1 ⟨by decide +kernel, by unfold InR; decide⟩ ?_
  refine e_ishr dX3_degree_3 ?_
  exact e_ireturn dX3_degree_4 rfl ⟨_, rfl, hq⟩

def vX3_times  (x0 : Int) (x1 : Int) : Int := (w32 ((w32 (x0 + x1)) - 262143))
set_option maxRecDepth 100000 in
set_option maxHeartbeats 4000000 in
theorem sX3_times {G : Gl} {S : Sh} {I : MI} {R : MR} {Q : Sh → MI → MR → Int → Prop} {x0 : Int} {x1 : Int} (hq : Q S I R (vX3_times x0 x1)) : CI G MX3_times [vI x0, vI x1] S I R Q := by
  show E G MX3_times 0 [(0, vI x0), (1, vI x1)] [] S I R (qI Q)
  unfold vX3_times at hq
  refine e_iload_n 0 dX3_times_0 rfl ?_
  refine e_iload_n 1 dX3_times_1 rfl ?_
  refine e_iadd dX3_times_2 ?_
  refine e_ldc (x := 262143) dX3_times_3 cnX3_13 (by unfold InR; decide) ?_
  refine e_isub dX3_times_5 ?_
  exact e_ireturn dX3_times_6 rfl ⟨_, rfl, hq⟩

def vX3_by  (x0 : Int) (x1 : Int) : Int := (w32 ((w32 (x0 - x1)) + 262143))
set_option maxRecDepth 100000 in
set_option maxHeartbeats 4000000 in
theorem sX3_by {G : Gl} {S : Sh} {I : MI} {R : MR} {Q : Sh → MI → MR → Int → Prop} {x0 : Int} {x1 : Int} (hq : Q S I R (vX3_by x0 x1)) : CI G MX3_by [vI x0, vI x1] S I R Q := by
  show E G MX3_by 0 [(0, vI x0), (1, vI x1)] [] S I R (qI Q)
  unfold vX3_by at hq
  refine e_iload_n 0 dX3_by_0 rfl ?_
  refine e_iload_n 1 dX3_by_1 rfl ?_
  refine e_isub dX3_by_2 ?_
  refine e_ldc (x := 262143) dX3_by_3 cnX3_13 (by unfold InR; decide) ?_
  refine e_iadd dX3_by_5 ?_
  exact e_ireturn dX3_by_6 rfl ⟨_, rfl, hq⟩

def vX3_of  (x0 : Int) (x1 : Int) (x2 : Int) (x3 : Int) : Int := (w32 ((w32 ((ishl x0 18) + 262143)) - (ior (ior (ishl x1 12) (ishl x2 6)) x3)))
set_option maxRecDepth 100000 in
set_option maxHeartbeats 4000000 in
theorem sX3_of {G : Gl} {S : Sh} {I : MI} {R : MR} {Q : Sh → MI → MR → Int → Prop} {x0 : Int} {x1 : Int} {x2 : Int} {x3 : Int} (hq : Q S I R (vX3_of x0 x1 x2 x3)) : CI G MX3_of [vI x0, vI x1, vI x2, vI x3] S I R Q := by
  show E G MX3_of 0 [(0, vI x0), (1, vI x1), (2, vI x2), (3, vI x3)] [] S I R (qI Q)
  unfold vX3_of at hq
  refine e_iload_n 0 dX3_of_0 rfl ?_
  refine e_bipush (x := 18) dX3_of_1 ⟨by decide +kernel, by unfold InR; decide⟩ ?_
  refine e_ishl dX3_of_3 ?_
  refine e_ldc (x := 262143) dX3_of_4 cnX3_13 (by unfold InR; decide) ?_
  refine e_iadd dX3_of_6 ?_
  refine e_iload_n 1 dX3_of_7 rfl ?_
  refine e_bipush (x := 12) dX3_of_8 ⟨by decide +kernel, by unfold InR; decide⟩ ?_
  refine e_ishl dX3_of_10 ?_
  refine e_iload_n 2 dX3_of_11 rfl ?_
  refine e_bipush (x := 6) dX3_of_12 ⟨by decide +kernel, by unfold InR; decide⟩ ?_
  refine e_ishl dX3_of_14 ?_
  refine e_ior dX3_of_15 ?_
  refine e_iload_n 3 dX3_of_16 rfl ?_
  refine e_ior dX3_of_17 ?_
  refine e_isub dX3_of_18 ?_
  exact e_ireturn dX3_of_19 rfl ⟨_, rfl, hq⟩
