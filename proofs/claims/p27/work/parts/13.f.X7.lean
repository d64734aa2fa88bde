set_option maxRecDepth 100000 in
set_option maxHeartbeats 4000000 in
theorem bX7_init {G : Gl} {S : Sh} {I : MI} {R : MR} {Q : Sh → MI → MR → Prop} {x0 : Nat} (h : (sT S x0 ≠ 0 ∧ (∀ S8 I8 R8, S8 = shNew S 21 200 200 → I8 = mNew I (sN S) 0 → R8 = mNew R (sN S) 0 → (sT S8 x0 = 7 ∧ (∀ R10, R10 = up2 R8 x0 0 (sN S) → (∀ I15, I15 = up2 I8 x0 3 (-1) → (∀ S19 I19 R19, S19 = shNew S8 5 0 3 → I19 = mNew I15 (sN S8) 0 → R19 = mNew R10 (sN S8) 0 → (sT S19 (sN S8) ≠ 0 ∧ (CV G MX5_init [vR (sN S8), vI 101] S19 I19 R19 (fun S25 I25 R25 => (sT S25 x0 = 7 ∧ (∀ R28, R28 = up2 R25 x0 4 (sN S8) → (∀ S33 I33 R33, S33 = shNew S25 21 3 3 → I33 = mNew I25 (sN S25) 0 → R33 = mNew R28 (sN S25) 0 → (sT S33 x0 = 7 ∧ (∀ R35, R35 = up2 R33 x0 7 (sN S25) → Q S33 I33 R35))))))))))))))) : CV G MX7_init [vR x0] S I R Q := by
  show E G MX7_init 0 [(0, vR x0)] [] S I R (qV Q)
  refine e_aload_n 0 dX7_init_0 rfl ?_
  have o1 := h.1
  replace h := h.2
  refine e_objI dX7_init_1 ⟨moX7_3, oc⟩ (by decide) (Nat.le_of_ble_eq_true rfl) o1 ?_
  refine e_aload_n 0 dX7_init_4 rfl ?_
  refine e_sipush (x := 200) dX7_init_5 ⟨by decide +kernel, by unfold InR; decide⟩ ?_
  obtain ⟨S8, eS8⟩ : ∃ z : Sh, z = shNew S 21 200 200 := ⟨_, rfl⟩
  obtain ⟨I8, eI8⟩ : ∃ z : MI, z = mNew I (sN S) 0 := ⟨_, rfl⟩
  obtain ⟨R8, eR8⟩ : ∃ z : MR, z = mNew R (sN S) 0 := ⟨_, rfl⟩
  replace h := h S8 I8 R8 eS8 eI8 eR8
  refine e_newa (t := 21) (n := 200) dX7_init_8 (Or.inl ⟨rfl, rfl⟩) acint rfl (by decide) (eqS eS8 (eqI eI8 (eqR eR8 ?_)))
  have o2 := h.1
  replace h := h.2
  obtain ⟨R10, eR10⟩ : ∃ z : MR, z = up2 R8 x0 0 (sN S) := ⟨_, rfl⟩
  replace h := h R10 eR10
  refine e_putR dX7_init_10 flX7_9 rfl (Or.inr ⟨rfl, rfl, rfl⟩) o2 (eqR eR10 ?_)
  refine e_aload_n 0 dX7_init_13 rfl ?_
  refine e_iconst dX7_init_14 (by unfold InR; decide) ?_
  obtain ⟨I15, eI15⟩ : ∃ z : MI, z = up2 I8 x0 3 (-1) := ⟨_, rfl⟩
  replace h := h I15 eI15
  refine e_putI dX7_init_15 flX7_15 rfl (Or.inl rfl) o2 (eqI eI15 ?_)
  refine e_aload_n 0 dX7_init_18 rfl ?_
  obtain ⟨S19, eS19⟩ : ∃ z : Sh, z = shNew S8 5 0 3 := ⟨_, rfl⟩
  obtain ⟨I19, eI19⟩ : ∃ z : MI, z = mNew I15 (sN S8) 0 := ⟨_, rfl⟩
  obtain ⟨R19, eR19⟩ : ∃ z : MR, z = mNew R10 (sN S8) 0 := ⟨_, rfl⟩
  replace h := h S19 I19 R19 eS19 eI19 eR19
  refine e_new (ci := 4) dX7_init_19 (by decide) ⟨clX7_19, is4, ii4⟩ (eqS eS19 (eqI eI19 (eqR eR19 ?_)))
  refine e_dup dX7_init_22 rfl ?_
  refine e_bipush (x := 101) dX7_init_23 ⟨by decide +kernel, by unfold InR; decide⟩ ?_
  have o3 := h.1
  replace h := h.2
  refine i_IV (μ' := MX5_init) (r := (sN S8)) (as := [vI 101]) (st := [vR (sN S8), vR x0]) rfl dX7_init_25 mOKX5_init ⟨mlX7_21, imX5_init⟩ ⟨rfl, rfl⟩ (by decide) (Nat.le_of_ble_eq_true rfl) rfl (Nat.le_of_ble_eq_true rfl) o3 (CV.mono h ?_)
  clear h
  intro S25 I25 R25 h
  have o4 := h.1
  replace h := h.2
  obtain ⟨R28, eR28⟩ : ∃ z : MR, z = up2 R25 x0 4 (sN S8) := ⟨_, rfl⟩
  replace h := h R28 eR28
  refine e_putR dX7_init_28 flX7_24 rfl (Or.inr ⟨rfl, rfl, rfl⟩) o4 (eqR eR28 ?_)
  refine e_aload_n 0 dX7_init_31 rfl ?_
  refine e_iconst dX7_init_32 (by unfold InR; decide) ?_
  obtain ⟨S33, eS33⟩ : ∃ z : Sh, z = shNew S25 21 3 3 := ⟨_, rfl⟩
  obtain ⟨I33, eI33⟩ : ∃ z : MI, z = mNew I25 (sN S25) 0 := ⟨_, rfl⟩
  obtain ⟨R33, eR33⟩ : ∃ z : MR, z = mNew R28 (sN S25) 0 := ⟨_, rfl⟩
  replace h := h S33 I33 R33 eS33 eI33 eR33
  refine e_newa (t := 21) (n := 3) dX7_init_33 (Or.inl ⟨rfl, rfl⟩) acint rfl (by decide) (eqS eS33 (eqI eI33 (eqR eR33 ?_)))
  have o5 := h.1
  replace h := h.2
  obtain ⟨R35, eR35⟩ : ∃ z : MR, z = up2 R33 x0 7 (sN S25) := ⟨_, rfl⟩
  replace h := h R35 eR35
  refine e_putR dX7_init_35 flX7_28 rfl (Or.inr ⟨rfl, rfl, rfl⟩) o5 (eqR eR35 ?_)
  exact e_return dX7_init_38 rfl ⟨rfl, h⟩

def LX7_take_3 (G : Gl) (x0 : Nat) (x1 : Int) (x2 : Int) (S : Sh) (I : MI) (R : MR) (Q : Sh → MI → MR → Prop) : Prop := E G MX7_take 3 [(0, vR x0), (1, vI x1), (2, vI x2)] [] S I R (qV Q)
set_option maxRecDepth 100000 in
set_option maxHeartbeats 4000000 in
theorem bX7_take {G : Gl} {S : Sh} {I : MI} {R : MR} {Q : Sh → MI → MR → Prop} {x0 : Nat} {x1 : Int} (h : LX7_take_3 G x0 x1 24 S I R Q) : CV G MX7_take [vR x0, vI x1] S I R Q := by
  show E G MX7_take 0 [(0, vR x0), (1, vI x1)] [] S I R (qV Q)
  refine e_bipush (x := 24) dX7_take_0 ⟨by decide +kernel, by unfold InR; decide⟩ ?_
  refine e_istore_n (ls2 := [(2, vI 24), (0, vR x0), (1, vI x1)]) dX7_take_2 (by decide) rfl ?_
  exact e_sub (ls2 := [(0, vR x0), (1, vI x1), (2, vI 24)]) [1, 2, 0] rfl h
set_option maxRecDepth 100000 in
set_option maxHeartbeats 4000000 in
theorem bX7_take_3 {G : Gl} {S : Sh} {I : MI} {R : MR} {Q : Sh → MI → MR → Prop} {x0 : Nat} {x1 : Int} {x2 : Int} (h : ((x2 < 0 → Q S I R) ∧ (¬ (x2 < 0) → (sT S x0 = 7 ∧ ((200 ≤ (I x0 1) → Q S I R) ∧ (¬ (200 ≤ (I x0 1)) → (sT S (R x0 0) = 21 ∧ (((0 : Int) ≤ (I x0 1) ∧ (I x0 1) < (sL S (R x0 0) : Int)) ∧ (∀ I32, I32 = up2 I (R x0 0) (Int.toNat (I x0 1)) (iand (iushr x1 x2) 255) → (∀ I40, I40 = up2 I32 x0 1 (w32 ((I32 x0 1) + 1)) → LX7_take_3 G x0 x1 (w32 (x2 + (-8))) S I40 R Q)))))))))) : LX7_take_3 G x0 x1 x2 S I R Q := by
  show E G MX7_take 3 [(0, vR x0), (1, vI x1), (2, vI x2)] [] S I R (qV Q)
  refine e_iload_n 2 dX7_take_3 rfl ?_
  refine e_if_lt (tgt := 49) dX7_take_4 (by decide) (fun c => ?_) (fun c => ?_)
  · replace h := h.1 c
    exact e_return dX7_take_49 rfl ⟨rfl, h⟩
  · replace h := h.2 c
    refine e_aload_n 0 dX7_take_7 rfl ?_
    have o1 := h.1
    replace h := h.2
    refine e_getI dX7_take_8 flX7_31 rfl o1 ?_
    refine e_sipush (x := 200) dX7_take_11 ⟨by decide +kernel, by unfold InR; decide⟩ ?_
    refine e_icmp_ge (tgt := 49) dX7_take_14 (by decide) (fun c => ?_) (fun c => ?_)
    · replace h := h.1 c
      exact e_return dX7_take_49 rfl ⟨rfl, h⟩
    · replace h := h.2 c
      refine e_aload_n 0 dX7_take_17 rfl ?_
      refine e_getR dX7_take_18 flX7_9 rfl o1 ?_
      refine e_aload_n 0 dX7_take_21 rfl ?_
      refine e_getI dX7_take_22 flX7_31 rfl o1 ?_
      refine e_iload_n 1 dX7_take_25 rfl ?_
      refine e_iload_n 2 dX7_take_26 rfl ?_
      refine e_iushr dX7_take_27 ?_
      refine e_sipush (x := 255) dX7_take_28 ⟨by decide +kernel, by unfold InR; decide⟩ ?_
      refine e_iand dX7_take_31 ?_
      have o2 := h.1
      replace h := h.2
      have o3 := h.1
      replace h := h.2
      obtain ⟨I32, eI32⟩ : ∃ z : MI, z = up2 I (R x0 0) (Int.toNat (I x0 1)) (iand (iushr x1 x2) 255) := ⟨_, rfl⟩
      replace h := h I32 eI32
      refine e_iast dX7_take_32 o2 o3 (eqI eI32 ?_)
      refine e_aload_n 0 dX7_take_33 rfl ?_
      refine e_dup dX7_take_34 rfl ?_
      refine e_getI dX7_take_35 flX7_31 rfl o1 ?_
      refine e_iconst dX7_take_38 (by unfold InR; decide) ?_
      refine e_iadd dX7_take_39 ?_
      obtain ⟨I40, eI40⟩ : ∃ z : MI, z = up2 I32 x0 1 (w32 ((I32 x0 1) + 1)) := ⟨_, rfl⟩
      replace h := h I40 eI40
      refine e_putI dX7_take_40 flX7_31 rfl (Or.inl rfl) o1 (eqI eI40 ?_)
      refine e_iinc (ls2 := [(2, vI (w32 (x2 + (-8)))), (0, vR x0), (1, vI x1)]) 2 dX7_take_43 rfl (by decide) rfl ?_
      refine e_goto (tgt := 3) dX7_take_46 (by decide) ?_
      exact e_sub (ls2 := [(0, vR x0), (1, vI x1), (2, vI (w32 (x2 + (-8))))]) [1, 2, 0] rfl h

set_option maxRecDepth 100000 in
set_option maxHeartbeats 4000000 in
theorem bX7_clearFault {G : Gl} {S : Sh} {I : MI} {R : MR} {Q : Sh → MI → MR → Prop} {x0 : Nat} (h : (sT S x0 = 7 ∧ (∀ I2, I2 = up2 I x0 2 0 → (∀ I7, I7 = up2 I2 x0 3 (-1) → Q S I7 R)))) : CV G MX7_clearFault [vR x0] S I R Q := by
  show E G MX7_clearFault 0 [(0, vR x0)] [] S I R (qV Q)
  refine e_aload_n 0 dX7_clearFault_0 rfl ?_
  refine e_iconst dX7_clearFault_1 (by unfold InR; decide) ?_
  have o1 := h.1
  replace h := h.2
  obtain ⟨I2, eI2⟩ : ∃ z : MI, z = up2 I x0 2 0 := ⟨_, rfl⟩
  replace h := h I2 eI2
  refine e_putI dX7_clearFault_2 flX7_34 rfl (Or.inl rfl) o1 (eqI eI2 ?_)
  refine e_aload_n 0 dX7_clearFault_5 rfl ?_
  refine e_iconst dX7_clearFault_6 (by unfold InR; decide) ?_
  obtain ⟨I7, eI7⟩ : ∃ z : MI, z = up2 I2 x0 3 (-1) := ⟨_, rfl⟩
  replace h := h I7 eI7
  refine e_putI dX7_clearFault_7 flX7_15 rfl (Or.inl rfl) o1 (eqI eI7 ?_)
  exact e_return dX7_clearFault_10 rfl ⟨rfl, h⟩

def LX7_ahead_0 (G : Gl) (x0 : Nat) (S : Sh) (I : MI) (R : MR) (Q : Sh → MI → MR → Int → Prop) : Prop := E G MX7_ahead 0 [(0, vR x0)] [] S I R (qI Q)
def LX7_ahead_48 (G : Gl) (x0 : Nat) (S : Sh) (I : MI) (R : MR) (Q : Sh → MI → MR → Int → Prop) : Prop := E G MX7_ahead 48 [(0, vR x0)] [] S I R (qI Q)
theorem bX7_ahead {G : Gl} {S : Sh} {I : MI} {R : MR} {Q : Sh → MI → MR → Int → Prop} {x0 : Nat} (h : LX7_ahead_0 G x0 S I R Q) : CI G MX7_ahead [vR x0] S I R Q := h
set_option maxRecDepth 100000 in
set_option maxHeartbeats 4000000 in
theorem bX7_ahead_0 {G : Gl} {S : Sh} {I : MI} {R : MR} {Q : Sh → MI → MR → Int → Prop} {x0 : Nat} (h : (sT S x0 = 7 ∧ (((I x0 1) ≤ (I x0 5) → LX7_ahead_48 G x0 S I R Q) ∧ (¬ ((I x0 1) ≤ (I x0 5)) → ((200 ≤ (I x0 5) → LX7_ahead_48 G x0 S I R Q) ∧ (¬ (200 ≤ (I x0 5)) → (sT S (R x0 0) = 21 ∧ (((0 : Int) ≤ (I x0 5) ∧ (I x0 5) < (sL S (R x0 0) : Int)) ∧ (((I (R x0 0) (Int.toNat (I x0 5))) ≠ 32 → LX7_ahead_48 G x0 S I R Q) ∧ (¬ ((I (R x0 0) (Int.toNat (I x0 5))) ≠ 32) → (∀ I42, I42 = up2 I x0 5 (w32 ((I x0 5) + 1)) → LX7_ahead_0 G x0 S I42 R Q))))))))))) : LX7_ahead_0 G x0 S I R Q := by
  show E G MX7_ahead 0 [(0, vR x0)] [] S I R (qI Q)
  refine e_aload_n 0 dX7_ahead_0 rfl ?_
  have o1 := h.1
  replace h := h.2
  refine e_getI dX7_ahead_1 flX7_37 rfl o1 ?_
  refine e_aload_n 0 dX7_ahead_4 rfl ?_
  refine e_getI dX7_ahead_5 flX7_31 rfl o1 ?_
  refine e_icmp_ge (tgt := 48) dX7_ahead_8 (by decide) (fun c => ?_) (fun c => ?_)
  · replace h := h.1 c
    exact e_sub (ls2 := [(0, vR x0)]) [0] rfl h
  · replace h := h.2 c
    refine e_aload_n 0 dX7_ahead_11 rfl ?_
    refine e_getI dX7_ahead_12 flX7_37 rfl o1 ?_
    refine e_sipush (x := 200) dX7_ahead_15 ⟨by decide +kernel, by unfold InR; decide⟩ ?_
    refine e_icmp_ge (tgt := 48) dX7_ahead_18 (by decide) (fun c => ?_) (fun c => ?_)
    · replace h := h.1 c
      exact e_sub (ls2 := [(0, vR x0)]) [0] rfl h
    · replace h := h.2 c
      refine e_aload_n 0 dX7_ahead_21 rfl ?_
      refine e_getR dX7_ahead_22 flX7_9 rfl o1 ?_
      refine e_aload_n 0 dX7_ahead_25 rfl ?_
      refine e_getI dX7_ahead_26 flX7_37 rfl o1 ?_
      have o2 := h.1
      replace h := h.2
      have o3 := h.1
      replace h := h.2
      refine e_iald dX7_ahead_29 o2 o3 ?_
      refine e_bipush (x := 32) dX7_ahead_30 ⟨by decide +kernel, by unfold InR; decide⟩ ?_
      refine e_icmp_ne (tgt := 48) dX7_ahead_32 (by decide) (fun c => ?_) (fun c => ?_)
      · replace h := h.1 c
        exact e_sub (ls2 := [(0, vR x0)]) [0] rfl h
      · replace h := h.2 c
        refine e_aload_n 0 dX7_ahead_35 rfl ?_
        refine e_dup dX7_ahead_36 rfl ?_
        refine e_getI dX7_ahead_37 flX7_37 rfl o1 ?_
        refine e_iconst dX7_ahead_40 (by unfold InR; decide) ?_
        refine e_iadd dX7_ahead_41 ?_
        obtain ⟨I42, eI42⟩ : ∃ z : MI, z = up2 I x0 5 (w32 ((I x0 5) + 1)) := ⟨_, rfl⟩
        replace h := h I42 eI42
        refine e_putI dX7_ahead_42 flX7_37 rfl (Or.inl rfl) o1 (eqI eI42 ?_)
        refine e_goto (tgt := 0) dX7_ahead_45 (by decide) ?_
        exact e_sub (ls2 := [(0, vR x0)]) [0] rfl h
set_option maxRecDepth 100000 in
set_option maxHeartbeats 4000000 in
theorem bX7_ahead_48 {G : Gl} {S : Sh} {I : MI} {R : MR} {Q : Sh → MI → MR → Int → Prop} {x0 : Nat} (h : (sT S x0 = 7 ∧ (((I x0 1) ≤ (I x0 5) → Q S I R (-1)) ∧ (¬ ((I x0 1) ≤ (I x0 5)) → ((200 ≤ (I x0 5) → Q S I R (-1)) ∧ (¬ (200 ≤ (I x0 5)) → (sT S (R x0 0) = 21 ∧ (((0 : Int) ≤ (I x0 5) ∧ (I x0 5) < (sL S (R x0 0) : Int)) ∧ Q S I R (I (R x0 0) (Int.toNat (I x0 5))))))))))) : LX7_ahead_48 G x0 S I R Q := by
  show E G MX7_ahead 48 [(0, vR x0)] [] S I R (qI Q)
  refine e_aload_n 0 dX7_ahead_48 rfl ?_
  have o4 := h.1
  replace h := h.2
  refine e_getI dX7_ahead_49 flX7_37 rfl o4 ?_
  refine e_aload_n 0 dX7_ahead_52 rfl ?_
  refine e_getI dX7_ahead_53 flX7_31 rfl o4 ?_
  refine e_icmp_ge (tgt := 81) dX7_ahead_56 (by decide) (fun c => ?_) (fun c => ?_)
  · replace h := h.1 c
    refine e_iconst dX7_ahead_81 (by unfold InR; decide) ?_
    exact e_ireturn dX7_ahead_82 rfl ⟨_, rfl, h⟩
  · replace h := h.2 c
    refine e_aload_n 0 dX7_ahead_59 rfl ?_
    refine e_getI dX7_ahead_60 flX7_37 rfl o4 ?_
    refine e_sipush (x := 200) dX7_ahead_63 ⟨by decide +kernel, by unfold InR; decide⟩ ?_
    refine e_icmp_ge (tgt := 81) dX7_ahead_66 (by decide) (fun c => ?_) (fun c => ?_)
    · replace h := h.1 c
      refine e_iconst dX7_ahead_81 (by unfold InR; decide) ?_
      exact e_ireturn dX7_ahead_82 rfl ⟨_, rfl, h⟩
    · replace h := h.2 c
      refine e_aload_n 0 dX7_ahead_69 rfl ?_
      refine e_getR dX7_ahead_70 flX7_9 rfl o4 ?_
      refine e_aload_n 0 dX7_ahead_73 rfl ?_
      refine e_getI dX7_ahead_74 flX7_37 rfl o4 ?_
      have o5 := h.1
      replace h := h.2
      have o6 := h.1
      replace h := h.2
      refine e_iald dX7_ahead_77 o5 o6 ?_
      refine e_goto (tgt := 82) dX7_ahead_78 (by decide) ?_
      exact e_ireturn dX7_ahead_82 rfl ⟨_, rfl, h⟩

def vX7_isDigit  (x0 : Int) : Int := (if x0 < 48 then 0 else (if 57 < x0 then 0 else 1))
set_option maxRecDepth 100000 in
set_option maxHeartbeats 4000000 in
theorem sX7_isDigit {G : Gl} {S : Sh} {I : MI} {R : MR} {Q : Sh → MI → MR → Int → Prop} {x0 : Int} (hq : Q S I R (vX7_isDigit x0)) : CI G MX7_isDigit [vI x0] S I R Q := by
  show E G MX7_isDigit 0 [(0, vI x0)] [] S I R (qI Q)
  unfold vX7_isDigit at hq
  refine e_iload_n 0 dX7_isDigit_0 rfl ?_
  refine e_bipush (x := 48) dX7_isDigit_1 ⟨by decide +kernel, by unfold InR; decide⟩ ?_
  refine e_icmp_lt (tgt := 16) dX7_isDigit_3 (by decide) (fun c => ?_) (fun c => ?_)
  · rw [if_pos c] at hq
    refine e_iconst dX7_isDigit_16 (by unfold InR; decide) ?_
    exact e_zreturn dX7_isDigit_17 rfl (by decide) ⟨_, rfl, hq⟩
  · rw [if_neg c] at hq
    refine e_iload_n 0 dX7_isDigit_6 rfl ?_
    refine e_bipush (x := 57) dX7_isDigit_7 ⟨by decide +kernel, by unfold InR; decide⟩ ?_
    refine e_icmp_gt (tgt := 16) dX7_isDigit_9 (by decide) (fun c => ?_) (fun c => ?_)
    · rw [if_pos c] at hq
      refine e_iconst dX7_isDigit_16 (by unfold InR; decide) ?_
      exact e_zreturn dX7_isDigit_17 rfl (by decide) ⟨_, rfl, hq⟩
    · rw [if_neg c] at hq
      refine e_iconst dX7_isDigit_12 (by unfold InR; decide) ?_
      refine e_goto (tgt := 17) dX7_isDigit_13 (by decide) ?_
      exact e_zreturn dX7_isDigit_17 rfl (by decide) ⟨_, rfl, hq⟩

def vX7_isVariable (I : MI) (x0 : Int) (x1 : Nat) : Int := (if x0 < 120 then 0 else (if (w32 (120 + (I x1 0))) ≤ x0 then 0 else 1))
def pX7_isVariable (S : Sh) (x0 : Int) (x1 : Nat) : Prop := ((x0 < 120 → True) ∧ (¬ (x0 < 120) → (sT S x1 = 6 ∧ True)))
set_option maxRecDepth 100000 in
set_option maxHeartbeats 4000000 in
theorem sX7_isVariable {G : Gl} {S : Sh} {I : MI} {R : MR} {Q : Sh → MI → MR → Int → Prop} {x0 : Int} {x1 : Nat} (hp : pX7_isVariable S x0 x1) (hq : Q S I R (vX7_isVariable I x0 x1)) : CI G MX7_isVariable [vI x0, vR x1] S I R Q := by
  show E G MX7_isVariable 0 [(0, vI x0), (1, vR x1)] [] S I R (qI Q)
  unfold vX7_isVariable at hq
  unfold pX7_isVariable at hp
  refine e_iload_n 0 dX7_isVariable_0 rfl ?_
  refine e_bipush (x := 120) dX7_isVariable_1 ⟨by decide +kernel, by unfold InR; decide⟩ ?_
  refine e_icmp_lt (tgt := 21) dX7_isVariable_3 (by decide) (fun c => ?_) (fun c => ?_)
  · rw [if_pos c] at hq
    replace hp := hp.1 c
    refine e_iconst dX7_isVariable_21 (by unfold InR; decide) ?_
    exact e_zreturn dX7_isVariable_22 rfl (by decide) ⟨_, rfl, hq⟩
  · rw [if_neg c] at hq
    replace hp := hp.2 c
    refine e_iload_n 0 dX7_isVariable_6 rfl ?_
    refine e_bipush (x := 120) dX7_isVariable_7 ⟨by decide +kernel, by unfold InR; decide⟩ ?_
    refine e_aload_n 1 dX7_isVariable_9 rfl ?_
    have o1 := hp.1
    replace hp := hp.2
    refine e_getI dX7_isVariable_10 flX7_117 rfl o1 ?_
    refine e_iadd dX7_isVariable_13 ?_
    refine e_icmp_ge (tgt := 21) dX7_isVariable_14 (by decide) (fun c => ?_) (fun c => ?_)
    · rw [if_pos c] at hq
      refine e_iconst dX7_isVariable_21 (by unfold InR; decide) ?_
      exact e_zreturn dX7_isVariable_22 rfl (by decide) ⟨_, rfl, hq⟩
    · rw [if_neg c] at hq
      refine e_iconst dX7_isVariable_17 (by unfold InR; decide) ?_
      refine e_goto (tgt := 22) dX7_isVariable_18 (by decide) ?_
      exact e_zreturn dX7_isVariable_22 rfl (by decide) ⟨_, rfl, hq⟩

set_option maxRecDepth 100000 in
set_option maxHeartbeats 4000000 in
theorem bX7_factorIsAhead {G : Gl} {S : Sh} {I : MI} {R : MR} {Q : Sh → MI → MR → Int → Prop} {x0 : Nat} {x1 : Nat} (h : (sT S x0 = 7 ∧ (CI G MX7_ahead [vR x0] S I R (fun S1 I1 R1 x1_ => (((vX7_isDigit x1_) ≠ 0 → Q S1 I1 R1 1) ∧ (¬ ((vX7_isDigit x1_) ≠ 0) → ((pX7_isVariable S1 x1_ x1) ∧ (((vX7_isVariable I1 x1_ x1) = 0 → Q S1 I1 R1 0) ∧ (¬ ((vX7_isVariable I1 x1_ x1) = 0) → Q S1 I1 R1 1))))))))) : CI G MX7_factorIsAhead [vR x0, vR x1] S I R Q := by
  show E G MX7_factorIsAhead 0 [(0, vR x0), (1, vR x1)] [] S I R (qI Q)
  refine e_aload_n 0 dX7_factorIsAhead_0 rfl ?_
  have o1 := h.1
  replace h := h.2
  refine i_VI (μ' := MX7_ahead) (ci := 6) (r := x0) (as := []) (st := []) rfl dX7_factorIsAhead_1 mOKX7_ahead ⟨mlX7_43, imX7_ahead, seX7_ahead⟩ (by decide) (Nat.le_of_ble_eq_true rfl) rfl (Nat.le_of_ble_eq_true rfl) ⟨by decide, rfl⟩ o1 (CI.mono h ?_)
  clear h
  intro S1 I1 R1 x1_ h
  refine e_istore_n (ls2 := [(2, vI x1_), (0, vR x0), (1, vR x1)]) dX7_factorIsAhead_4 (by decide) rfl ?_
  refine e_iload_n 0 dX7_factorIsAhead_5 rfl ?_
  refine i_SI (μ' := MX7_isDigit) (as := [vI x1_]) (st := []) rfl dX7_factorIsAhead_6 mOKX7_isDigit ⟨mlX7_96, stX7_isDigit⟩ (by decide) (Nat.le_of_ble_eq_true rfl) rfl (Nat.le_of_ble_eq_true rfl) (sX7_isDigit ?_)
  refine e_if_ne (tgt := 20) dX7_factorIsAhead_9 (by decide) (fun c => ?_) (fun c => ?_)
  · replace h := h.1 c
    refine e_iconst dX7_factorIsAhead_20 (by unfold InR; decide) ?_
    refine e_goto (tgt := 25) dX7_factorIsAhead_21 (by decide) ?_
    exact e_zreturn dX7_factorIsAhead_25 rfl (by decide) ⟨_, rfl, h⟩
  · replace h := h.2 c
    refine e_iload_n 0 dX7_factorIsAhead_12 rfl ?_
    refine e_aload_n 2 dX7_factorIsAhead_13 rfl ?_
    have o2 := h.1
    replace h := h.2
    refine i_SI (μ' := MX7_isVariable) (as := [vI x1_, vR x1]) (st := []) rfl dX7_factorIsAhead_14 mOKX7_isVariable ⟨mlX7_100, stX7_isVariable⟩ (by decide) (Nat.le_of_ble_eq_true rfl) rfl (Nat.le_of_ble_eq_true rfl) (sX7_isVariable o2 ?_)
    refine e_if_eq (tgt := 24) dX7_factorIsAhead_17 (by decide) (fun c => ?_) (fun c => ?_)
    · replace h := h.1 c
      refine e_iconst dX7_factorIsAhead_24 (by unfold InR; decide) ?_
      exact e_zreturn dX7_factorIsAhead_25 rfl (by decide) ⟨_, rfl, h⟩
    · replace h := h.2 c
      refine e_iconst dX7_factorIsAhead_20 (by unfold InR; decide) ?_
      refine e_goto (tgt := 25) dX7_factorIsAhead_21 (by decide) ?_
      exact e_zreturn dX7_factorIsAhead_25 rfl (by decide) ⟨_, rfl, h⟩

set_option maxRecDepth 100000 in
set_option maxHeartbeats 4000000 in
theorem bX7_blame {G : Gl} {S : Sh} {I : MI} {R : MR} {Q : Sh → MI → MR → Prop} {x0 : Nat} {x1 : Int} {x2 : Int} (h : (sT S x0 = 7 ∧ (((I x0 2) ≠ 0 → Q S I R) ∧ (¬ ((I x0 2) ≠ 0) → (∀ I9, I9 = up2 I x0 2 x1 → (∀ I14, I14 = up2 I9 x0 3 x2 → Q S I14 R)))))) : CV G MX7_blame [vR x0, vI x1, vI x2] S I R Q := by
  show E G MX7_blame 0 [(0, vR x0), (1, vI x1), (2, vI x2)] [] S I R (qV Q)
  refine e_aload_n 0 dX7_blame_0 rfl ?_
  have o1 := h.1
  replace h := h.2
  refine e_getI dX7_blame_1 flX7_34 rfl o1 ?_
  refine e_if_ne (tgt := 17) dX7_blame_4 (by decide) (fun c => ?_) (fun c => ?_)
  · replace h := h.1 c
    exact e_return dX7_blame_17 rfl ⟨rfl, h⟩
  · replace h := h.2 c
    refine e_aload_n 0 dX7_blame_7 rfl ?_
    refine e_iload_n 1 dX7_blame_8 rfl ?_
    obtain ⟨I9, eI9⟩ : ∃ z : MI, z = up2 I x0 2 x1 := ⟨_, rfl⟩
    replace h := h I9 eI9
    refine e_putI dX7_blame_9 flX7_34 rfl (Or.inl rfl) o1 (eqI eI9 ?_)
    refine e_aload_n 0 dX7_blame_12 rfl ?_
    refine e_iload_n 2 dX7_blame_13 rfl ?_
    obtain ⟨I14, eI14⟩ : ∃ z : MI, z = up2 I9 x0 3 x2 := ⟨_, rfl⟩
    replace h := h I14 eI14
    refine e_putI dX7_blame_14 flX7_15 rfl (Or.inl rfl) o1 (eqI eI14 ?_)
    exact e_return dX7_blame_17 rfl ⟨rfl, h⟩

def LX7_readDigits_7 (G : Gl) (x0 : Nat) (x1 : Int) (x2 : Int) (x3 : Int) (S : Sh) (I : MI) (R : MR) (Q : Sh → MI → MR → Int → Prop) : Prop := E G MX7_readDigits 7 [(0, vR x0), (1, vI x1), (2, vI x2), (3, vI x3)] [] S I R (qI Q)
def LX7_readDigits_84 (G : Gl) (x0 : Nat) (x1 : Int) (x2 : Int) (x3 : Int) (S : Sh) (I : MI) (R : MR) (Q : Sh → MI → MR → Int → Prop) : Prop := E G MX7_readDigits 84 [(0, vR x0), (1, vI x1), (2, vI x2), (3, vI x3)] [] S I R (qI Q)
set_option maxRecDepth 100000 in
set_option maxHeartbeats 4000000 in
theorem bX7_readDigits {G : Gl} {S : Sh} {I : MI} {R : MR} {Q : Sh → MI → MR → Int → Prop} {x0 : Nat} {x1 : Int} (h : (sT S x0 = 7 ∧ LX7_readDigits_7 G x0 x1 (I x0 5) 0 S I R Q)) : CI G MX7_readDigits [vR x0, vI x1] S I R Q := by
  show E G MX7_readDigits 0 [(0, vR x0), (1, vI x1)] [] S I R (qI Q)
  refine e_aload_n 0 dX7_readDigits_0 rfl ?_
  have o1 := h.1
  replace h := h.2
  refine e_getI dX7_readDigits_1 flX7_37 rfl o1 ?_
  refine e_istore_n (ls2 := [(2, vI (I x0 5)), (0, vR x0), (1, vI x1)]) dX7_readDigits_4 (by decide) rfl ?_
  refine e_iconst dX7_readDigits_5 (by unfold InR; decide) ?_
  refine e_istore_n (ls2 := [(3, vI 0), (2, vI (I x0 5)), (0, vR x0), (1, vI x1)]) dX7_readDigits_6 (by decide) rfl ?_
  exact e_sub (ls2 := [(0, vR x0), (1, vI x1), (2, vI (I x0 5)), (3, vI 0)]) [2, 3, 1, 0] rfl h
set_option maxRecDepth 100000 in
set_option maxHeartbeats 4000000 in
theorem bX7_readDigits_7 {G : Gl} {S : Sh} {I : MI} {R : MR} {Q : Sh → MI → MR → Int → Prop} {x0 : Nat} {x1 : Int} {x2 : Int} {x3 : Int} (h : (sT S x0 = 7 ∧ (((I x0 1) ≤ (I x0 5) → LX7_readDigits_84 G x0 x1 x2 x3 S I R Q) ∧ (¬ ((I x0 1) ≤ (I x0 5)) → ((200 ≤ (I x0 5) → LX7_readDigits_84 G x0 x1 x2 x3 S I R Q) ∧ (¬ (200 ≤ (I x0 5)) → (sT S (R x0 0) = 21 ∧ (((0 : Int) ≤ (I x0 5) ∧ (I x0 5) < (sL S (R x0 0) : Int)) ∧ (((vX7_isDigit (I (R x0 0) (Int.toNat (I x0 5)))) = 0 → LX7_readDigits_84 G x0 x1 x2 x3 S I R Q) ∧ (¬ ((vX7_isDigit (I (R x0 0) (Int.toNat (I x0 5)))) = 0) → ((x1 ≤ (w32 ((I x0 5) - x2)) → (∀ I78, I78 = up2 I x0 5 (w32 ((I x0 5) + 1)) → LX7_readDigits_7 G x0 x1 x2 x3 S I78 R Q)) ∧ (¬ (x1 ≤ (w32 ((I x0 5) - x2))) → (∀ I78, I78 = up2 I x0 5 (w32 ((I x0 5) + 1)) → LX7_readDigits_7 G x0 x1 x2 (w32 ((w32 ((w32 (10 * x3)) + (I (R x0 0) (Int.toNat (I x0 5))))) - 48)) S I78 R Q))))))))))))) : LX7_readDigits_7 G x0 x1 x2 x3 S I R Q := by
  show E G MX7_readDigits 7 [(0, vR x0), (1, vI x1), (2, vI x2), (3, vI x3)] [] S I R (qI Q)
  refine e_aload_n 0 dX7_readDigits_7 rfl ?_
  have o2 := h.1
  replace h := h.2
  refine e_getI dX7_readDigits_8 flX7_37 rfl o2 ?_
  refine e_aload_n 0 dX7_readDigits_11 rfl ?_
  refine e_getI dX7_readDigits_12 flX7_31 rfl o2 ?_
  refine e_icmp_ge (tgt := 84) dX7_readDigits_15 (by decide) (fun c => ?_) (fun c => ?_)
  · replace h := h.1 c
    exact e_sub (ls2 := [(0, vR x0), (1, vI x1), (2, vI x2), (3, vI x3)]) [0, 1, 2, 3] rfl h
  · replace h := h.2 c
    refine e_aload_n 0 dX7_readDigits_18 rfl ?_
    refine e_getI dX7_readDigits_19 flX7_37 rfl o2 ?_
    refine e_sipush (x := 200) dX7_readDigits_22 ⟨by decide +kernel, by unfold InR; decide⟩ ?_
    refine e_icmp_ge (tgt := 84) dX7_readDigits_25 (by decide) (fun c => ?_) (fun c => ?_)
    · replace h := h.1 c
      exact e_sub (ls2 := [(0, vR x0), (1, vI x1), (2, vI x2), (3, vI x3)]) [0, 1, 2, 3] rfl h
    · replace h := h.2 c
      refine e_aload_n 0 dX7_readDigits_28 rfl ?_
      refine e_getR dX7_readDigits_29 flX7_9 rfl o2 ?_
      refine e_aload_n 0 dX7_readDigits_32 rfl ?_
      refine e_getI dX7_readDigits_33 flX7_37 rfl o2 ?_
      have o3 := h.1
      replace h := h.2
      have o4 := h.1
      replace h := h.2
      refine e_iald dX7_readDigits_36 o3 o4 ?_
      refine i_SI (μ' := MX7_isDigit) (as := [vI (I (R x0 0) (Int.toNat (I x0 5)))]) (st := []) rfl dX7_readDigits_37 mOKX7_isDigit ⟨mlX7_96, stX7_isDigit⟩ (by decide) (Nat.le_of_ble_eq_true rfl) rfl (Nat.le_of_ble_eq_true rfl) (sX7_isDigit ?_)
      refine e_if_eq (tgt := 84) dX7_readDigits_40 (by decide) (fun c => ?_) (fun c => ?_)
      · replace h := h.1 c
        exact e_sub (ls2 := [(0, vR x0), (1, vI x1), (2, vI x2), (3, vI x3)]) [0, 1, 2, 3] rfl h
      · replace h := h.2 c
        refine e_aload_n 0 dX7_readDigits_43 rfl ?_
        refine e_getI dX7_readDigits_44 flX7_37 rfl o2 ?_
        refine e_iload_n 2 dX7_readDigits_47 rfl ?_
        refine e_isub dX7_readDigits_48 ?_
        refine e_iload_n 1 dX7_readDigits_49 rfl ?_
        refine e_icmp_ge (tgt := 71) dX7_readDigits_50 (by decide) (fun c => ?_) (fun c => ?_)
        · replace h := h.1 c
          refine e_aload_n 0 dX7_readDigits_71 rfl ?_
          refine e_dup dX7_readDigits_72 rfl ?_
          refine e_getI dX7_readDigits_73 flX7_37 rfl o2 ?_
          refine e_iconst dX7_readDigits_76 (by unfold InR; decide) ?_
          refine e_iadd dX7_readDigits_77 ?_
          obtain ⟨I78, eI78⟩ : ∃ z : MI, z = up2 I x0 5 (w32 ((I x0 5) + 1)) := ⟨_, rfl⟩
          replace h := h I78 eI78
          refine e_putI dX7_readDigits_78 flX7_37 rfl (Or.inl rfl) o2 (eqI eI78 ?_)
          refine e_goto (tgt := 7) dX7_readDigits_81 (by decide) ?_
          exact e_sub (ls2 := [(0, vR x0), (1, vI x1), (2, vI x2), (3, vI x3)]) [0, 1, 2, 3] rfl h
        · replace h := h.2 c
          refine e_bipush (x := 10) dX7_readDigits_53 ⟨by decide +kernel, by unfold InR; decide⟩ ?_
          refine e_iload_n 3 dX7_readDigits_55 rfl ?_
          refine e_imul dX7_readDigits_56 ?_
          refine e_aload_n 0 dX7_readDigits_57 rfl ?_
          refine e_getR dX7_readDigits_58 flX7_9 rfl o2 ?_
          refine e_aload_n 0 dX7_readDigits_61 rfl ?_
          refine e_getI dX7_readDigits_62 flX7_37 rfl o2 ?_
          refine e_iald dX7_readDigits_65 o3 o4 ?_
          refine e_iadd dX7_readDigits_66 ?_
          refine e_bipush (x := 48) dX7_readDigits_67 ⟨by decide +kernel, by unfold InR; decide⟩ ?_
          refine e_isub dX7_readDigits_69 ?_
          refine e_istore_n (ls2 := [(3, vI (w32 ((w32 ((w32 (10 * x3)) + (I (R x0 0) (Int.toNat (I x0 5))))) - 48))), (0, vR x0), (1, vI x1), (2, vI x2)]) dX7_readDigits_70 (by decide) rfl ?_
          refine e_aload_n 1 dX7_readDigits_71 rfl ?_
          refine e_dup dX7_readDigits_72 rfl ?_
          refine e_getI dX7_readDigits_73 flX7_37 rfl o2 ?_
          refine e_iconst dX7_readDigits_76 (by unfold InR; decide) ?_
          refine e_iadd dX7_readDigits_77 ?_
          obtain ⟨I78, eI78⟩ : ∃ z : MI, z = up2 I x0 5 (w32 ((I x0 5) + 1)) := ⟨_, rfl⟩
          replace h := h I78 eI78
          refine e_putI dX7_readDigits_78 flX7_37 rfl (Or.inl rfl) o2 (eqI eI78 ?_)
          refine e_goto (tgt := 7) dX7_readDigits_81 (by decide) ?_
          exact e_sub (ls2 := [(0, vR x0), (1, vI x1), (2, vI x2), (3, vI (w32 ((w32 ((w32 (10 * x3)) + (I (R x0 0) (Int.toNat (I x0 5))))) - 48)))]) [1, 2, 3, 0] rfl h
set_option maxRecDepth 100000 in
set_option maxHeartbeats 4000000 in
theorem bX7_readDigits_84 {G : Gl} {S : Sh} {I : MI} {R : MR} {Q : Sh → MI → MR → Int → Prop} {x0 : Nat} {x1 : Int} {x2 : Int} {x3 : Int} (h : (sT S x0 = 7 ∧ (((w32 ((I x0 5) - x2)) ≤ x1 → Q S I R x3) ∧ (¬ ((w32 ((I x0 5) - x2)) ≤ x1) → (CV G MX7_blame [vR x0, vI 1, vI x2] S I R (fun S97 I97 R97 => Q S97 I97 R97 x3)))))) : LX7_readDigits_84 G x0 x1 x2 x3 S I R Q := by
  show E G MX7_readDigits 84 [(0, vR x0), (1, vI x1), (2, vI x2), (3, vI x3)] [] S I R (qI Q)
  refine e_aload_n 0 dX7_readDigits_84 rfl ?_
  have o5 := h.1
  replace h := h.2
  refine e_getI dX7_readDigits_85 flX7_37 rfl o5 ?_
  refine e_iload_n 2 dX7_readDigits_88 rfl ?_
  refine e_isub dX7_readDigits_89 ?_
  refine e_iload_n 1 dX7_readDigits_90 rfl ?_
  refine e_icmp_le (tgt := 100) dX7_readDigits_91 (by decide) (fun c => ?_) (fun c => ?_)
  · replace h := h.1 c
    refine e_iload_n 3 dX7_readDigits_100 rfl ?_
    exact e_ireturn dX7_readDigits_101 rfl ⟨_, rfl, h⟩
  · replace h := h.2 c
    refine e_aload_n 0 dX7_readDigits_94 rfl ?_
    refine e_iconst dX7_readDigits_95 (by unfold InR; decide) ?_
    refine e_iload_n 2 dX7_readDigits_96 rfl ?_
    refine i_VV (μ' := MX7_blame) (ci := 6) (r := x0) (as := [vI 1, vI x2]) (st := []) rfl dX7_readDigits_97 mOKX7_blame ⟨mlX7_51, imX7_blame, seX7_blame⟩ (by decide) (Nat.le_of_ble_eq_true rfl) rfl (Nat.le_of_ble_eq_true rfl) ⟨by decide, rfl⟩ o5 (CV.mono h ?_)
    clear h
    intro S97 I97 R97 h
    refine e_iload_n 3 dX7_readDigits_100 rfl ?_
    exact e_ireturn dX7_readDigits_101 rfl ⟨_, rfl, h⟩

def LX7_readPower_61 (G : Gl) (x0 : Nat) (x1 : Int) (x2 : Int) (x3 : Int) (S : Sh) (I : MI) (R : MR) (Q : Sh → MI → MR → Prop) : Prop := E G MX7_readPower 61 [(0, vR x0), (1, vI x1), (2, vI x2), (3, vI x3)] [] S I R (qV Q)
set_option maxRecDepth 100000 in
set_option maxHeartbeats 4000000 in
theorem bX7_readPower {G : Gl} {S : Sh} {I : MI} {R : MR} {Q : Sh → MI → MR → Prop} {x0 : Nat} {x1 : Int} (h : (sT S x0 = 7 ∧ (∀ I12, I12 = up2 I x0 5 (w32 ((I x0 5) + 1)) → (CI G MX7_ahead [vR x0] S I12 R (fun S18 I18 R18 x18_ => ((x18_ ≠ 94 → LX7_readPower_61 G x0 x1 (I x0 5) 1 S18 I18 R18 Q) ∧ (¬ (x18_ ≠ 94) → (sT S18 x0 = 7 ∧ (∀ I33, I33 = up2 I18 x0 5 (w32 ((I18 x0 5) + 1)) → (CI G MX7_ahead [vR x0] S18 I33 R18 (fun S37 I37 R37 x37_ => (((vX7_isDigit x37_) ≠ 0 → (sT S37 x0 = 7 ∧ (CI G MX7_readDigits [vR x0, vI 2] S37 I37 R37 (fun S57 I57 R57 x57_ => LX7_readPower_61 G x0 x1 (I x0 5) x57_ S57 I57 R57 Q)))) ∧ (¬ ((vX7_isDigit x37_) ≠ 0) → (sT S37 x0 = 7 ∧ (CV G MX7_blame [vR x0, vI 1, vI (I37 x0 5)] S37 I37 R37 (fun S52 I52 R52 => (sT S52 x0 = 7 ∧ (CI G MX7_readDigits [vR x0, vI 2] S52 I52 R52 (fun S57 I57 R57 x57_ => LX7_readPower_61 G x0 x1 (I x0 5) x57_ S57 I57 R57 Q))))))))))))))))))) : CV G MX7_readPower [vR x0, vI x1] S I R Q := by
  show E G MX7_readPower 0 [(0, vR x0), (1, vI x1)] [] S I R (qV Q)
  refine e_aload_n 0 dX7_readPower_0 rfl ?_
  have o1 := h.1
  replace h := h.2
  refine e_getI dX7_readPower_1 flX7_37 rfl o1 ?_
  refine e_istore_n (ls2 := [(2, vI (I x0 5)), (0, vR x0), (1, vI x1)]) dX7_readPower_4 (by decide) rfl ?_
  refine e_aload_n 1 dX7_readPower_5 rfl ?_
  refine e_dup dX7_readPower_6 rfl ?_
  refine e_getI dX7_readPower_7 flX7_37 rfl o1 ?_
  refine e_iconst dX7_readPower_10 (by unfold InR; decide) ?_
  refine e_iadd dX7_readPower_11 ?_
  obtain ⟨I12, eI12⟩ : ∃ z : MI, z = up2 I x0 5 (w32 ((I x0 5) + 1)) := ⟨_, rfl⟩
  replace h := h I12 eI12
  refine e_putI dX7_readPower_12 flX7_37 rfl (Or.inl rfl) o1 (eqI eI12 ?_)
  refine e_iconst dX7_readPower_15 (by unfold InR; decide) ?_
  refine e_istore_n (ls2 := [(3, vI 1), (2, vI (I x0 5)), (0, vR x0), (1, vI x1)]) dX7_readPower_16 (by decide) rfl ?_
  refine e_aload_n 2 dX7_readPower_17 rfl ?_
  refine i_VI (μ' := MX7_ahead) (ci := 6) (r := x0) (as := []) (st := []) rfl dX7_readPower_18 mOKX7_ahead ⟨mlX7_43, imX7_ahead, seX7_ahead⟩ (by decide) (Nat.le_of_ble_eq_true rfl) rfl (Nat.le_of_ble_eq_true rfl) ⟨by decide, rfl⟩ o1 (CI.mono h ?_)
  clear h
  intro S18 I18 R18 x18_ h
  refine e_bipush (x := 94) dX7_readPower_21 ⟨by decide +kernel, by unfold InR; decide⟩ ?_
  refine e_icmp_ne (tgt := 61) dX7_readPower_23 (by decide) (fun c => ?_) (fun c => ?_)
  · replace h := h.1 c
    exact e_sub (ls2 := [(0, vR x0), (1, vI x1), (2, vI (I x0 5)), (3, vI 1)]) [2, 3, 1, 0] rfl h
  · replace h := h.2 c
    refine e_aload_n 2 dX7_readPower_26 rfl ?_
    refine e_dup dX7_readPower_27 rfl ?_
    have o2 := h.1
    replace h := h.2
    refine e_getI dX7_readPower_28 flX7_37 rfl o2 ?_
    refine e_iconst dX7_readPower_31 (by unfold InR; decide) ?_
    refine e_iadd dX7_readPower_32 ?_
    obtain ⟨I33, eI33⟩ : ∃ z : MI, z = up2 I18 x0 5 (w32 ((I18 x0 5) + 1)) := ⟨_, rfl⟩
    replace h := h I33 eI33
    refine e_putI dX7_readPower_33 flX7_37 rfl (Or.inl rfl) o2 (eqI eI33 ?_)
    refine e_aload_n 2 dX7_readPower_36 rfl ?_
    refine i_VI (μ' := MX7_ahead) (ci := 6) (r := x0) (as := []) (st := []) rfl dX7_readPower_37 mOKX7_ahead ⟨mlX7_43, imX7_ahead, seX7_ahead⟩ (by decide) (Nat.le_of_ble_eq_true rfl) rfl (Nat.le_of_ble_eq_true rfl) ⟨by decide, rfl⟩ o2 (CI.mono h ?_)
    clear h
    intro S37 I37 R37 x37_ h
    refine i_SI (μ' := MX7_isDigit) (as := [vI x37_]) (st := []) rfl dX7_readPower_40 mOKX7_isDigit ⟨mlX7_96, stX7_isDigit⟩ (by decide) (Nat.le_of_ble_eq_true rfl) rfl (Nat.le_of_ble_eq_true rfl) (sX7_isDigit ?_)
    refine e_if_ne (tgt := 55) dX7_readPower_43 (by decide) (fun c => ?_) (fun c => ?_)
    · replace h := h.1 c
      refine e_aload_n 2 dX7_readPower_55 rfl ?_
      refine e_iconst dX7_readPower_56 (by unfold InR; decide) ?_
      have o3 := h.1
      replace h := h.2
      refine i_VI (μ' := MX7_readDigits) (ci := 6) (r := x0) (as := [vI 2]) (st := []) rfl dX7_readPower_57 mOKX7_readDigits ⟨mlX7_104, imX7_readDigits, seX7_readDigits⟩ (by decide) (Nat.le_of_ble_eq_true rfl) rfl (Nat.le_of_ble_eq_true rfl) ⟨by decide, rfl⟩ o3 (CI.mono h ?_)
      clear h
      intro S57 I57 R57 x57_ h
      refine e_istore_n (ls2 := [(3, vI x57_), (2, vI (I x0 5)), (0, vR x0), (1, vI x1)]) dX7_readPower_60 (by decide) rfl ?_
      exact e_sub (ls2 := [(0, vR x0), (1, vI x1), (2, vI (I x0 5)), (3, vI x57_)]) [2, 3, 1, 0] rfl h
    · replace h := h.2 c
      refine e_aload_n 2 dX7_readPower_46 rfl ?_
      refine e_iconst dX7_readPower_47 (by unfold InR; decide) ?_
      refine e_aload_n 2 dX7_readPower_48 rfl ?_
      have o4 := h.1
      replace h := h.2
      refine e_getI dX7_readPower_49 flX7_37 rfl o4 ?_
      refine i_VV (μ' := MX7_blame) (ci := 6) (r := x0) (as := [vI 1, vI (I37 x0 5)]) (st := []) rfl dX7_readPower_52 mOKX7_blame ⟨mlX7_51, imX7_blame, seX7_blame⟩ (by decide) (Nat.le_of_ble_eq_true rfl) rfl (Nat.le_of_ble_eq_true rfl) ⟨by decide, rfl⟩ o4 (CV.mono h ?_)
      clear h
      intro S52 I52 R52 h
      refine e_aload_n 2 dX7_readPower_55 rfl ?_
      refine e_iconst dX7_readPower_56 (by unfold InR; decide) ?_
      have o5 := h.1
      replace h := h.2
      refine i_VI (μ' := MX7_readDigits) (ci := 6) (r := x0) (as := [vI 2]) (st := []) rfl dX7_readPower_57 mOKX7_readDigits ⟨mlX7_104, imX7_readDigits, seX7_readDigits⟩ (by decide) (Nat.le_of_ble_eq_true rfl) rfl (Nat.le_of_ble_eq_true rfl) ⟨by decide, rfl⟩ o5 (CI.mono h ?_)
      clear h
      intro S57 I57 R57 x57_ h
      refine e_istore_n (ls2 := [(3, vI x57_), (2, vI (I x0 5)), (0, vR x0), (1, vI x1)]) dX7_readPower_60 (by decide) rfl ?_
      exact e_sub (ls2 := [(0, vR x0), (1, vI x1), (2, vI (I x0 5)), (3, vI x57_)]) [2, 3, 1, 0] rfl h
set_option maxRecDepth 100000 in
set_option maxHeartbeats 4000000 in
theorem bX7_readPower_61 {G : Gl} {S : Sh} {I : MI} {R : MR} {Q : Sh → MI → MR → Prop} {x0 : Nat} {x1 : Int} {x2 : Int} {x3 : Int} (h : ((x1 < 0 → Q S I R) ∧ (¬ (x1 < 0) → ((3 ≤ x1 → Q S I R) ∧ (¬ (3 ≤ x1) → (sT S x0 = 7 ∧ (sT S (R x0 7) = 21 ∧ (((0 : Int) ≤ x1 ∧ x1 < (sL S (R x0 7) : Int)) ∧ (∀ I79, I79 = up2 I (R x0 7) (Int.toNat x1) (w32 ((I (R x0 7) (Int.toNat x1)) + x3)) → (((I79 (R x0 7) (Int.toNat x1)) ≤ 30 → Q S I79 R) ∧ (¬ ((I79 (R x0 7) (Int.toNat x1)) ≤ 30) → (CV G MX7_blame [vR x0, vI 2, vI x2] S I79 R (fun S94 I94 R94 => Q S94 I94 R94))))))))))))) : LX7_readPower_61 G x0 x1 x2 x3 S I R Q := by
  show E G MX7_readPower 61 [(0, vR x0), (1, vI x1), (2, vI x2), (3, vI x3)] [] S I R (qV Q)
  refine e_iload_n 1 dX7_readPower_61 rfl ?_
  refine e_if_lt (tgt := 97) dX7_readPower_62 (by decide) (fun c => ?_) (fun c => ?_)
  · replace h := h.1 c
    exact e_return dX7_readPower_97 rfl ⟨rfl, h⟩
  · replace h := h.2 c
    refine e_iload_n 1 dX7_readPower_65 rfl ?_
    refine e_iconst dX7_readPower_66 (by unfold InR; decide) ?_
    refine e_icmp_ge (tgt := 97) dX7_readPower_67 (by decide) (fun c => ?_) (fun c => ?_)
    · replace h := h.1 c
      exact e_return dX7_readPower_97 rfl ⟨rfl, h⟩
    · replace h := h.2 c
      refine e_aload_n 0 dX7_readPower_70 rfl ?_
      have o6 := h.1
      replace h := h.2
      refine e_getR dX7_readPower_71 flX7_28 rfl o6 ?_
      refine e_iload_n 1 dX7_readPower_74 rfl ?_
      refine e_dup2 dX7_readPower_75 rfl rfl ?_
      have o7 := h.1
      replace h := h.2
      have o8 := h.1
      replace h := h.2
      refine e_iald dX7_readPower_76 o7 o8 ?_
      refine e_iload_n 3 dX7_readPower_77 rfl ?_
      refine e_iadd dX7_readPower_78 ?_
      obtain ⟨I79, eI79⟩ : ∃ z : MI, z = up2 I (R x0 7) (Int.toNat x1) (w32 ((I (R x0 7) (Int.toNat x1)) + x3)) := ⟨_, rfl⟩
      replace h := h I79 eI79
      refine e_iast dX7_readPower_79 o7 o8 (eqI eI79 ?_)
      refine e_aload_n 0 dX7_readPower_80 rfl ?_
      refine e_getR dX7_readPower_81 flX7_28 rfl o6 ?_
      refine e_iload_n 1 dX7_readPower_84 rfl ?_
      refine e_iald dX7_readPower_85 o7 o8 ?_
      refine e_bipush (x := 30) dX7_readPower_86 ⟨by decide +kernel, by unfold InR; decide⟩ ?_
      refine e_icmp_le (tgt := 97) dX7_readPower_88 (by decide) (fun c => ?_) (fun c => ?_)
      · replace h := h.1 c
        exact e_return dX7_readPower_97 rfl ⟨rfl, h⟩
      · replace h := h.2 c
        refine e_aload_n 0 dX7_readPower_91 rfl ?_
        refine e_iconst dX7_readPower_92 (by unfold InR; decide) ?_
        refine e_iload_n 2 dX7_readPower_93 rfl ?_
        refine i_VV (μ' := MX7_blame) (ci := 6) (r := x0) (as := [vI 2, vI x2]) (st := []) rfl dX7_readPower_94 mOKX7_blame ⟨mlX7_51, imX7_blame, seX7_blame⟩ (by decide) (Nat.le_of_ble_eq_true rfl) rfl (Nat.le_of_ble_eq_true rfl) ⟨by decide, rfl⟩ o6 (CV.mono h ?_)
        clear h
        intro S94 I94 R94 h
        exact e_return dX7_readPower_97 rfl ⟨rfl, h⟩

set_option maxRecDepth 100000 in
set_option maxHeartbeats 4000000 in
theorem bX7_readFactor {G : Gl} {S : Sh} {I : MI} {R : MR} {Q : Sh → MI → MR → Prop} {x0 : Nat} {x1 : Nat} (h : (sT S x0 = 7 ∧ (CI G MX7_ahead [vR x0] S I R (fun S1 I1 R1 x1_ => (((vX7_isDigit x1_) = 0 → ((pX7_isVariable S1 x1_ x1) ∧ (((vX7_isVariable I1 x1_ x1) = 0 → Q S1 I1 R1) ∧ (¬ ((vX7_isVariable I1 x1_ x1) = 0) → (sT S1 x0 = 7 ∧ (CV G MX7_readPower [vR x0, vI (w32 (x1_ - 120))] S1 I1 R1 (fun S55 I55 R55 => Q S55 I55 R55))))))) ∧ (¬ ((vX7_isDigit x1_) = 0) → (sT S1 x1 = 6 ∧ (sT S1 x0 = 7 ∧ (CI G MX7_readDigits [vR x0, vI 5] S1 I1 R1 (fun S27 I27 R27 x27_ => (sT S27 (R1 x1 1) = 4 ∧ ((pX4_reduced S27 I27 (R1 x1 1) x27_) ∧ ((pX4_times S27 I27 (R1 x1 1) (I1 x0 6) (vX4_reduced I27 (R1 x1 1) x27_)) ∧ (sT S27 x0 = 7 ∧ (∀ I36, I36 = up2 I27 x0 6 (vX4_times I27 (R1 x1 1) (I1 x0 6) (vX4_reduced I27 (R1 x1 1) x27_)) → Q S27 I36 R27))))))))))))))) : CV G MX7_readFactor [vR x0, vR x1] S I R Q := by
  show E G MX7_readFactor 0 [(0, vR x0), (1, vR x1)] [] S I R (qV Q)
  refine e_aload_n 0 dX7_readFactor_0 rfl ?_
  have o1 := h.1
  replace h := h.2
  refine i_VI (μ' := MX7_ahead) (ci := 6) (r := x0) (as := []) (st := []) rfl dX7_readFactor_1 mOKX7_ahead ⟨mlX7_43, imX7_ahead, seX7_ahead⟩ (by decide) (Nat.le_of_ble_eq_true rfl) rfl (Nat.le_of_ble_eq_true rfl) ⟨by decide, rfl⟩ o1 (CI.mono h ?_)
  clear h
  intro S1 I1 R1 x1_ h
  refine e_istore_n (ls2 := [(2, vI x1_), (0, vR x0), (1, vR x1)]) dX7_readFactor_4 (by decide) rfl ?_
  refine e_iload_n 0 dX7_readFactor_5 rfl ?_
  refine i_SI (μ' := MX7_isDigit) (as := [vI x1_]) (st := []) rfl dX7_readFactor_6 mOKX7_isDigit ⟨mlX7_96, stX7_isDigit⟩ (by decide) (Nat.le_of_ble_eq_true rfl) rfl (Nat.le_of_ble_eq_true rfl) (sX7_isDigit ?_)
  refine e_if_eq (tgt := 42) dX7_readFactor_9 (by decide) (fun c => ?_) (fun c => ?_)
  · replace h := h.1 c
    refine e_iload_n 0 dX7_readFactor_42 rfl ?_
    refine e_aload_n 2 dX7_readFactor_43 rfl ?_
    have o2 := h.1
    replace h := h.2
    refine i_SI (μ' := MX7_isVariable) (as := [vI x1_, vR x1]) (st := []) rfl dX7_readFactor_44 mOKX7_isVariable ⟨mlX7_100, stX7_isVariable⟩ (by decide) (Nat.le_of_ble_eq_true rfl) rfl (Nat.le_of_ble_eq_true rfl) (sX7_isVariable o2 ?_)
    refine e_if_eq (tgt := 58) dX7_readFactor_47 (by decide) (fun c => ?_) (fun c => ?_)
    · replace h := h.1 c
      exact e_return dX7_readFactor_58 rfl ⟨rfl, h⟩
    · replace h := h.2 c
      refine e_aload_n 1 dX7_readFactor_50 rfl ?_
      refine e_iload_n 0 dX7_readFactor_51 rfl ?_
      refine e_bipush (x := 120) dX7_readFactor_52 ⟨by decide +kernel, by unfold InR; decide⟩ ?_
      refine e_isub dX7_readFactor_54 ?_
      have o3 := h.1
      replace h := h.2
      refine i_VV (μ' := MX7_readPower) (ci := 6) (r := x0) (as := [vI (w32 (x1_ - 120))]) (st := []) rfl dX7_readFactor_55 mOKX7_readPower ⟨mlX7_114, imX7_readPower, seX7_readPower⟩ (by decide) (Nat.le_of_ble_eq_true rfl) rfl (Nat.le_of_ble_eq_true rfl) ⟨by decide, rfl⟩ o3 (CV.mono h ?_)
      clear h
      intro S55 I55 R55 h
      exact e_return dX7_readFactor_58 rfl ⟨rfl, h⟩
  · replace h := h.2 c
    refine e_aload_n 1 dX7_readFactor_12 rfl ?_
    refine e_aload_n 2 dX7_readFactor_13 rfl ?_
    have o4 := h.1
    replace h := h.2
    refine e_getR dX7_readFactor_14 flX7_82 rfl o4 ?_
    refine e_aload_n 1 dX7_readFactor_17 rfl ?_
    have o5 := h.1
    replace h := h.2
    refine e_getI dX7_readFactor_18 flX7_59 rfl o5 ?_
    refine e_aload_n 2 dX7_readFactor_21 rfl ?_
    refine e_getR dX7_readFactor_22 flX7_82 rfl o4 ?_
    refine e_aload_n 1 dX7_readFactor_25 rfl ?_
    refine e_iconst dX7_readFactor_26 (by unfold InR; decide) ?_
    refine i_VI (μ' := MX7_readDigits) (ci := 6) (r := x0) (as := [vI 5]) (st := [vR (R1 x1 1), vI (I1 x0 6), vR (R1 x1 1), vR x0]) rfl dX7_readFactor_27 mOKX7_readDigits ⟨mlX7_104, imX7_readDigits, seX7_readDigits⟩ (by decide) (Nat.le_of_ble_eq_true rfl) rfl (Nat.le_of_ble_eq_true rfl) ⟨by decide, rfl⟩ o5 (CI.mono h ?_)
    clear h
    intro S27 I27 R27 x27_ h
    have o6 := h.1
    replace h := h.2
    have o7 := h.1
    replace h := h.2
    refine i_VI (μ' := MX4_reduced) (ci := 3) (r := (R1 x1 1)) (as := [vI x27_]) (st := [vI (I1 x0 6), vR (R1 x1 1), vR x0]) rfl dX7_readFactor_30 mOKX4_reduced ⟨mlX7_107, imX4_reduced, seX4_reduced⟩ (by decide) (Nat.le_of_ble_eq_true rfl) rfl (Nat.le_of_ble_eq_true rfl) ⟨by decide, rfl⟩ o6 (sX4_reduced o7 ?_)
    have o8 := h.1
    replace h := h.2
    refine i_VI (μ' := MX4_times) (ci := 3) (r := (R1 x1 1)) (as := [vI (I1 x0 6), vI (vX4_reduced I27 (R1 x1 1) x27_)]) (st := [vR x0]) rfl dX7_readFactor_33 mOKX4_times ⟨mlX7_110, imX4_times, seX4_times⟩ (by decide) (Nat.le_of_ble_eq_true rfl) rfl (Nat.le_of_ble_eq_true rfl) ⟨by decide, rfl⟩ o6 (sX4_times o8 ?_)
    have o9 := h.1
    replace h := h.2
    obtain ⟨I36, eI36⟩ : ∃ z : MI, z = up2 I27 x0 6 (vX4_times I27 (R1 x1 1) (I1 x0 6) (vX4_reduced I27 (R1 x1 1) x27_)) := ⟨_, rfl⟩
    replace h := h I36 eI36
    refine e_putI dX7_readFactor_36 flX7_59 rfl (Or.inl rfl) o9 (eqI eI36 ?_)
    refine e_goto (tgt := 58) dX7_readFactor_39 (by decide) ?_
    exact e_return dX7_readFactor_58 rfl ⟨rfl, h⟩

def LX7_readSummand_32 (G : Gl) (x0 : Nat) (x1 : Int) (x2 : Nat) (x3 : Int) (S : Sh) (I : MI) (R : MR) (Q : Sh → MI → MR → Prop) : Prop := E G MX7_readSummand 32 [(0, vR x0), (1, vI x1), (2, vR x2), (3, vI x3)] [] S I R (qV Q)
def LX7_readSummand_65 (G : Gl) (x0 : Nat) (x1 : Int) (x2 : Nat) (S : Sh) (I : MI) (R : MR) (Q : Sh → MI → MR → Prop) : Prop := E G MX7_readSummand 65 [(0, vR x0), (1, vI x1), (2, vR x2)] [] S I R (qV Q)
set_option maxRecDepth 100000 in
set_option maxHeartbeats 4000000 in
theorem bX7_readSummand {G : Gl} {S : Sh} {I : MI} {R : MR} {Q : Sh → MI → MR → Prop} {x0 : Nat} {x1 : Int} {x2 : Nat} (h : (sT S x0 = 7 ∧ (∀ I2, I2 = up2 I x0 6 1 → (CV G MJ7_fill_53178 [vR (R x0 7), vI 0] S I2 R (fun S10 I10 R10 => (sT S10 x0 = 7 ∧ (CI G MX7_factorIsAhead [vR x0, vR x2] S10 I10 R10 (fun S15 I15 R15 x15_ => ((x15_ ≠ 0 → LX7_readSummand_32 G x0 x1 x2 0 S15 I15 R15 Q) ∧ (¬ (x15_ ≠ 0) → (sT S15 x0 = 7 ∧ (CV G MX7_blame [vR x0, vI 1, vI (I15 x0 5)] S15 I15 R15 (fun S27 I27 R27 => LX7_readSummand_32 G x0 x1 x2 0 S27 I27 R27 Q))))))))))))) : CV G MX7_readSummand [vR x0, vI x1, vR x2] S I R Q := by
  show E G MX7_readSummand 0 [(0, vR x0), (1, vI x1), (2, vR x2)] [] S I R (qV Q)
  refine e_aload_n 0 dX7_readSummand_0 rfl ?_
  refine e_iconst dX7_readSummand_1 (by unfold InR; decide) ?_
  have o1 := h.1
  replace h := h.2
  obtain ⟨I2, eI2⟩ : ∃ z : MI, z = up2 I x0 6 1 := ⟨_, rfl⟩
  replace h := h I2 eI2
  refine e_putI dX7_readSummand_2 flX7_59 rfl (Or.inl rfl) o1 (eqI eI2 ?_)
  refine e_aload_n 0 dX7_readSummand_5 rfl ?_
  refine e_getR dX7_readSummand_6 flX7_28 rfl o1 ?_
  refine e_iconst dX7_readSummand_9 (by unfold InR; decide) ?_
  refine i_SV (μ' := MJ7_fill_53178) (as := [vR (R x0 7), vI 0]) (st := []) rfl dX7_readSummand_10 mOKJ7_fill_53178 ⟨mlX7_62, stJ7_fill_53178⟩ (by decide) (Nat.le_of_ble_eq_true rfl) rfl (Nat.le_of_ble_eq_true rfl) (CV.mono h ?_)
  clear h
  intro S10 I10 R10 h
  refine e_aload_n 0 dX7_readSummand_13 rfl ?_
  refine e_aload_n 2 dX7_readSummand_14 rfl ?_
  have o2 := h.1
  replace h := h.2
  refine i_VI (μ' := MX7_factorIsAhead) (ci := 6) (r := x0) (as := [vR x2]) (st := []) rfl dX7_readSummand_15 mOKX7_factorIsAhead ⟨mlX7_68, imX7_factorIsAhead, seX7_factorIsAhead⟩ (by decide) (Nat.le_of_ble_eq_true rfl) rfl (Nat.le_of_ble_eq_true rfl) ⟨by decide, rfl⟩ o2 (CI.mono h ?_)
  clear h
  intro S15 I15 R15 x15_ h
  refine e_if_ne (tgt := 30) dX7_readSummand_18 (by decide) (fun c => ?_) (fun c => ?_)
  · replace h := h.1 c
    refine e_iconst dX7_readSummand_30 (by unfold InR; decide) ?_
    refine e_istore_n (ls2 := [(3, vI 0), (0, vR x0), (1, vI x1), (2, vR x2)]) dX7_readSummand_31 (by decide) rfl ?_
    exact e_sub (ls2 := [(0, vR x0), (1, vI x1), (2, vR x2), (3, vI 0)]) [1, 2, 3, 0] rfl h
  · replace h := h.2 c
    refine e_aload_n 0 dX7_readSummand_21 rfl ?_
    refine e_iconst dX7_readSummand_22 (by unfold InR; decide) ?_
    refine e_aload_n 0 dX7_readSummand_23 rfl ?_
    have o3 := h.1
    replace h := h.2
    refine e_getI dX7_readSummand_24 flX7_37 rfl o3 ?_
    refine i_VV (μ' := MX7_blame) (ci := 6) (r := x0) (as := [vI 1, vI (I15 x0 5)]) (st := []) rfl dX7_readSummand_27 mOKX7_blame ⟨mlX7_51, imX7_blame, seX7_blame⟩ (by decide) (Nat.le_of_ble_eq_true rfl) rfl (Nat.le_of_ble_eq_true rfl) ⟨by decide, rfl⟩ o3 (CV.mono h ?_)
    clear h
    intro S27 I27 R27 h
    refine e_iconst dX7_readSummand_30 (by unfold InR; decide) ?_
    refine e_istore_n (ls2 := [(3, vI 0), (0, vR x0), (1, vI x1), (2, vR x2)]) dX7_readSummand_31 (by decide) rfl ?_
    exact e_sub (ls2 := [(0, vR x0), (1, vI x1), (2, vR x2), (3, vI 0)]) [1, 2, 3, 0] rfl h
set_option maxRecDepth 100000 in
set_option maxHeartbeats 4000000 in
theorem bX7_readSummand_32 {G : Gl} {S : Sh} {I : MI} {R : MR} {Q : Sh → MI → MR → Prop} {x0 : Nat} {x1 : Int} {x2 : Nat} {x3 : Int} (h : ((200 ≤ x3 → LX7_readSummand_65 G x0 x1 x2 S I R Q) ∧ (¬ (200 ≤ x3) → (sT S x0 = 7 ∧ (((I x0 2) ≠ 0 → LX7_readSummand_65 G x0 x1 x2 S I R Q) ∧ (¬ ((I x0 2) ≠ 0) → (CI G MX7_factorIsAhead [vR x0, vR x2] S I R (fun S48 I48 R48 x48_ => ((x48_ = 0 → LX7_readSummand_65 G x0 x1 x2 S48 I48 R48 Q) ∧ (¬ (x48_ = 0) → (sT S48 x0 = 7 ∧ (CV G MX7_readFactor [vR x0, vR x2] S48 I48 R48 (fun S56 I56 R56 => LX7_readSummand_32 G x0 x1 x2 (w32 (x3 + 1)) S56 I56 R56 Q))))))))))))) : LX7_readSummand_32 G x0 x1 x2 x3 S I R Q := by
  show E G MX7_readSummand 32 [(0, vR x0), (1, vI x1), (2, vR x2), (3, vI x3)] [] S I R (qV Q)
  refine e_iload_n 3 dX7_readSummand_32 rfl ?_
  refine e_sipush (x := 200) dX7_readSummand_33 ⟨by decide +kernel, by unfold InR; decide⟩ ?_
  refine e_icmp_ge (tgt := 65) dX7_readSummand_36 (by decide) (fun c => ?_) (fun c => ?_)
  · replace h := h.1 c
    exact e_sub (ls2 := [(0, vR x0), (1, vI x1), (2, vR x2)]) [0, 1, 2] rfl h
  · replace h := h.2 c
    refine e_aload_n 0 dX7_readSummand_39 rfl ?_
    have o4 := h.1
    replace h := h.2
    refine e_getI dX7_readSummand_40 flX7_34 rfl o4 ?_
    refine e_if_ne (tgt := 65) dX7_readSummand_43 (by decide) (fun c => ?_) (fun c => ?_)
    · replace h := h.1 c
      exact e_sub (ls2 := [(0, vR x0), (1, vI x1), (2, vR x2)]) [0, 1, 2] rfl h
    · replace h := h.2 c
      refine e_aload_n 0 dX7_readSummand_46 rfl ?_
      refine e_aload_n 2 dX7_readSummand_47 rfl ?_
      refine i_VI (μ' := MX7_factorIsAhead) (ci := 6) (r := x0) (as := [vR x2]) (st := []) rfl dX7_readSummand_48 mOKX7_factorIsAhead ⟨mlX7_68, imX7_factorIsAhead, seX7_factorIsAhead⟩ (by decide) (Nat.le_of_ble_eq_true rfl) rfl (Nat.le_of_ble_eq_true rfl) ⟨by decide, rfl⟩ o4 (CI.mono h ?_)
      clear h
      intro S48 I48 R48 x48_ h
      refine e_if_eq (tgt := 65) dX7_readSummand_51 (by decide) (fun c => ?_) (fun c => ?_)
      · replace h := h.1 c
        exact e_sub (ls2 := [(0, vR x0), (1, vI x1), (2, vR x2)]) [0, 1, 2] rfl h
      · replace h := h.2 c
        refine e_aload_n 0 dX7_readSummand_54 rfl ?_
        refine e_aload_n 2 dX7_readSummand_55 rfl ?_
        have o5 := h.1
        replace h := h.2
        refine i_VV (μ' := MX7_readFactor) (ci := 6) (r := x0) (as := [vR x2]) (st := []) rfl dX7_readSummand_56 mOKX7_readFactor ⟨mlX7_72, imX7_readFactor, seX7_readFactor⟩ (by decide) (Nat.le_of_ble_eq_true rfl) rfl (Nat.le_of_ble_eq_true rfl) ⟨by decide, rfl⟩ o5 (CV.mono h ?_)
        clear h
        intro S56 I56 R56 h
        refine e_iinc (ls2 := [(3, vI (w32 (x3 + 1))), (0, vR x0), (1, vI x1), (2, vR x2)]) 3 dX7_readSummand_59 rfl (by decide) rfl ?_
        refine e_goto (tgt := 32) dX7_readSummand_62 (by decide) ?_
        exact e_sub (ls2 := [(0, vR x0), (1, vI x1), (2, vR x2), (3, vI (w32 (x3 + 1)))]) [1, 2, 3, 0] rfl h
set_option maxRecDepth 100000 in
set_option maxHeartbeats 4000000 in
theorem bX7_readSummand_65 {G : Gl} {S : Sh} {I : MI} {R : MR} {Q : Sh → MI → MR → Prop} {x0 : Nat} {x1 : Int} {x2 : Nat} (h : (sT S x0 = 7 ∧ (sT S (R x0 7) = 21 ∧ (((0 : Int) ≤ 0 ∧ 0 < (sL S (R x0 7) : Int)) ∧ (((0 : Int) ≤ 1 ∧ 1 < (sL S (R x0 7) : Int)) ∧ (((0 : Int) ≤ 2 ∧ 2 < (sL S (R x0 7) : Int)) ∧ (sT S x2 = 6 ∧ ((pX6_mono S R x2 (I (R x0 7) (Int.toNat 0)) (I (R x0 7) (Int.toNat 1)) (I (R x0 7) (Int.toNat 2))) ∧ (((I x0 2) ≠ 0 → Q S I R) ∧ (¬ ((I x0 2) ≠ 0) → ((x1 = 0 → (sT S (R x0 4) = 5 ∧ (CV G MX5_add [vR (R x0 4), vI (vX6_mono I R x2 (I (R x0 7) (Int.toNat 0)) (I (R x0 7) (Int.toNat 1)) (I (R x0 7) (Int.toNat 2))), vI (I x0 6), vR (R x2 1)] S I R (fun S126 I126 R126 => Q S126 I126 R126)))) ∧ (¬ (x1 = 0) → (sT S (R x2 1) = 4 ∧ ((pX4_negative S (R x2 1) (I x0 6)) ∧ (sT S (R x0 4) = 5 ∧ (CV G MX5_add [vR (R x0 4), vI (vX6_mono I R x2 (I (R x0 7) (Int.toNat 0)) (I (R x0 7) (Int.toNat 1)) (I (R x0 7) (Int.toNat 2))), vI (vX4_negative I (R x2 1) (I x0 6)), vR (R x2 1)] S I R (fun S126 I126 R126 => Q S126 I126 R126))))))))))))))))) : LX7_readSummand_65 G x0 x1 x2 S I R Q := by
  show E G MX7_readSummand 65 [(0, vR x0), (1, vI x1), (2, vR x2)] [] S I R (qV Q)
  refine e_aload_n 2 dX7_readSummand_65 rfl ?_
  refine e_aload_n 0 dX7_readSummand_66 rfl ?_
  have o6 := h.1
  replace h := h.2
  refine e_getR dX7_readSummand_67 flX7_28 rfl o6 ?_
  refine e_iconst dX7_readSummand_70 (by unfold InR; decide) ?_
  have o7 := h.1
  replace h := h.2
  have o8 := h.1
  replace h := h.2
  refine e_iald dX7_readSummand_71 o7 o8 ?_
  refine e_aload_n 0 dX7_readSummand_72 rfl ?_
  refine e_getR dX7_readSummand_73 flX7_28 rfl o6 ?_
  refine e_iconst dX7_readSummand_76 (by unfold InR; decide) ?_
  have o9 := h.1
  replace h := h.2
  refine e_iald dX7_readSummand_77 o7 o9 ?_
  refine e_aload_n 0 dX7_readSummand_78 rfl ?_
  refine e_getR dX7_readSummand_79 flX7_28 rfl o6 ?_
  refine e_iconst dX7_readSummand_82 (by unfold InR; decide) ?_
  have o10 := h.1
  replace h := h.2
  refine e_iald dX7_readSummand_83 o7 o10 ?_
  have o11 := h.1
  replace h := h.2
  have o12 := h.1
  replace h := h.2
  refine i_VI (μ' := MX6_mono) (ci := 5) (r := x2) (as := [vI (I (R x0 7) (Int.toNat 0)), vI (I (R x0 7) (Int.toNat 1)), vI (I (R x0 7) (Int.toNat 2))]) (st := []) rfl dX7_readSummand_84 mOKX6_mono ⟨mlX7_76, imX6_mono, seX6_mono⟩ (by decide) (Nat.le_of_ble_eq_true rfl) rfl (Nat.le_of_ble_eq_true rfl) ⟨by decide, rfl⟩ o11 (sX6_mono o12 ?_)
  refine e_istore_n (ls2 := [(3, vI (vX6_mono I R x2 (I (R x0 7) (Int.toNat 0)) (I (R x0 7) (Int.toNat 1)) (I (R x0 7) (Int.toNat 2)))), (0, vR x0), (1, vI x1), (2, vR x2)]) dX7_readSummand_87 (by decide) rfl ?_
  refine e_aload_n 1 dX7_readSummand_88 rfl ?_
  refine e_getI dX7_readSummand_89 flX7_34 rfl o6 ?_
  refine e_if_ne (tgt := 129) dX7_readSummand_92 (by decide) (fun c => ?_) (fun c => ?_)
  · replace h := h.1 c
    exact e_return dX7_readSummand_129 rfl ⟨rfl, h⟩
  · replace h := h.2 c
    refine e_aload_n 1 dX7_readSummand_95 rfl ?_
    refine e_getR dX7_readSummand_96 flX7_24 rfl o6 ?_
    refine e_iload_n 0 dX7_readSummand_99 rfl ?_
    refine e_iload_n 2 dX7_readSummand_100 rfl ?_
    refine e_if_eq (tgt := 118) dX7_readSummand_101 (by decide) (fun c => ?_) (fun c => ?_)
    · replace h := h.1 c
      refine e_aload_n 1 dX7_readSummand_118 rfl ?_
      refine e_getI dX7_readSummand_119 flX7_59 rfl o6 ?_
      refine e_aload_n 3 dX7_readSummand_122 rfl ?_
      refine e_getR dX7_readSummand_123 flX7_82 rfl o11 ?_
      have o13 := h.1
      replace h := h.2
      refine i_VV (μ' := MX5_add) (ci := 4) (r := (R x0 4)) (as := [vI (vX6_mono I R x2 (I (R x0 7) (Int.toNat 0)) (I (R x0 7) (Int.toNat 1)) (I (R x0 7) (Int.toNat 2))), vI (I x0 6), vR (R x2 1)]) (st := []) rfl dX7_readSummand_126 mOKX5_add ⟨mlX7_92, imX5_add, seX5_add⟩ (by decide) (Nat.le_of_ble_eq_true rfl) rfl (Nat.le_of_ble_eq_true rfl) ⟨by decide, rfl⟩ o13 (CV.mono h ?_)
      clear h
      intro S126 I126 R126 h
      exact e_return dX7_readSummand_129 rfl ⟨rfl, h⟩
    · replace h := h.2 c
      refine e_aload_n 3 dX7_readSummand_104 rfl ?_
      refine e_getR dX7_readSummand_105 flX7_82 rfl o11 ?_
      refine e_aload_n 1 dX7_readSummand_108 rfl ?_
      refine e_getI dX7_readSummand_109 flX7_59 rfl o6 ?_
      have o14 := h.1
      replace h := h.2
      have o15 := h.1
      replace h := h.2
      refine i_VI (μ' := MX4_negative) (ci := 3) (r := (R x2 1)) (as := [vI (I x0 6)]) (st := [vI (vX6_mono I R x2 (I (R x0 7) (Int.toNat 0)) (I (R x0 7) (Int.toNat 1)) (I (R x0 7) (Int.toNat 2))), vR (R x0 4)]) rfl dX7_readSummand_112 mOKX4_negative ⟨mlX7_86, imX4_negative, seX4_negative⟩ (by decide) (Nat.le_of_ble_eq_true rfl) rfl (Nat.le_of_ble_eq_true rfl) ⟨by decide, rfl⟩ o14 (sX4_negative o15 ?_)
      refine e_goto (tgt := 122) dX7_readSummand_115 (by decide) ?_
      refine e_aload_n 3 dX7_readSummand_122 rfl ?_
      refine e_getR dX7_readSummand_123 flX7_82 rfl o11 ?_
      have o16 := h.1
      replace h := h.2
      refine i_VV (μ' := MX5_add) (ci := 4) (r := (R x0 4)) (as := [vI (vX6_mono I R x2 (I (R x0 7) (Int.toNat 0)) (I (R x0 7) (Int.toNat 1)) (I (R x0 7) (Int.toNat 2))), vI (vX4_negative I (R x2 1) (I x0 6)), vR (R x2 1)]) (st := []) rfl dX7_readSummand_126 mOKX5_add ⟨mlX7_92, imX5_add, seX5_add⟩ (by decide) (Nat.le_of_ble_eq_true rfl) rfl (Nat.le_of_ble_eq_true rfl) ⟨by decide, rfl⟩ o16 (CV.mono h ?_)
      clear h
      intro S126 I126 R126 h
      exact e_return dX7_readSummand_129 rfl ⟨rfl, h⟩

def LX7_read_28 (G : Gl) (x0 : Nat) (x1 : Nat) (y0 : Int) (S : Sh) (I : MI) (R : MR) (Q : Sh → MI → MR → Prop) : Prop := E G MX7_read 28 [(0, vR x0), (1, vR x1)] [vI y0] S I R (qV Q)
def LX7_read_47 (G : Gl) (x0 : Nat) (x1 : Nat) (x2 : Int) (x3 : Int) (S : Sh) (I : MI) (R : MR) (Q : Sh → MI → MR → Prop) : Prop := E G MX7_read 47 [(0, vR x0), (1, vR x1), (2, vI x2), (3, vI x3)] [] S I R (qV Q)
def LX7_read_131 (G : Gl) (x0 : Nat) (S : Sh) (I : MI) (R : MR) (Q : Sh → MI → MR → Prop) : Prop := E G MX7_read 131 [(0, vR x0)] [] S I R (qV Q)
def LX7_read_77 (G : Gl) (x0 : Nat) (x1 : Nat) (x3 : Int) (y0 : Int) (y1 : Nat) (S : Sh) (I : MI) (R : MR) (Q : Sh → MI → MR → Prop) : Prop := E G MX7_read 77 [(0, vR x0), (1, vR x1), (3, vI x3)] [vI y0, vR y1] S I R (qV Q)
set_option maxRecDepth 100000 in
set_option maxHeartbeats 4000000 in
theorem bX7_read {G : Gl} {S : Sh} {I : MI} {R : MR} {Q : Sh → MI → MR → Prop} {x0 : Nat} {x1 : Nat} (h : (sT S x0 = 7 ∧ (∀ I2, I2 = up2 I x0 5 0 → (sT S (R x0 4) = 5 ∧ (CV G MX5_clear [vR (R x0 4)] S I2 R (fun S9 I9 R9 => (sT S9 x0 = 7 ∧ (CI G MX7_ahead [vR x0] S9 I9 R9 (fun S13 I13 R13 x13_ => ((x13_ ≠ 45 → LX7_read_28 G x0 x1 43 S13 I13 R13 Q) ∧ (¬ (x13_ ≠ 45) → LX7_read_28 G x0 x1 45 S13 I13 R13 Q))))))))))) : CV G MX7_read [vR x0, vR x1] S I R Q := by
  show E G MX7_read 0 [(0, vR x0), (1, vR x1)] [] S I R (qV Q)
  refine e_aload_n 0 dX7_read_0 rfl ?_
  refine e_iconst dX7_read_1 (by unfold InR; decide) ?_
  have o1 := h.1
  replace h := h.2
  obtain ⟨I2, eI2⟩ : ∃ z : MI, z = up2 I x0 5 0 := ⟨_, rfl⟩
  replace h := h I2 eI2
  refine e_putI dX7_read_2 flX7_37 rfl (Or.inl rfl) o1 (eqI eI2 ?_)
  refine e_aload_n 0 dX7_read_5 rfl ?_
  refine e_getR dX7_read_6 flX7_24 rfl o1 ?_
  have o2 := h.1
  replace h := h.2
  refine i_VV (μ' := MX5_clear) (ci := 4) (r := (R x0 4)) (as := []) (st := []) rfl dX7_read_9 mOKX5_clear ⟨mlX7_40, imX5_clear, seX5_clear⟩ (by decide) (Nat.le_of_ble_eq_true rfl) rfl (Nat.le_of_ble_eq_true rfl) ⟨by decide, rfl⟩ o2 (CV.mono h ?_)
  clear h
  intro S9 I9 R9 h
  refine e_aload_n 0 dX7_read_12 rfl ?_
  have o3 := h.1
  replace h := h.2
  refine i_VI (μ' := MX7_ahead) (ci := 6) (r := x0) (as := []) (st := []) rfl dX7_read_13 mOKX7_ahead ⟨mlX7_43, imX7_ahead, seX7_ahead⟩ (by decide) (Nat.le_of_ble_eq_true rfl) rfl (Nat.le_of_ble_eq_true rfl) ⟨by decide, rfl⟩ o3 (CI.mono h ?_)
  clear h
  intro S13 I13 R13 x13_ h
  refine e_bipush (x := 45) dX7_read_16 ⟨by decide +kernel, by unfold InR; decide⟩ ?_
  refine e_icmp_ne (tgt := 26) dX7_read_18 (by decide) (fun c => ?_) (fun c => ?_)
  · replace h := h.1 c
    refine e_bipush (x := 43) dX7_read_26 ⟨by decide +kernel, by unfold InR; decide⟩ ?_
    exact e_sub (ls2 := [(0, vR x0), (1, vR x1)]) [0, 1] rfl h
  · replace h := h.2 c
    refine e_bipush (x := 45) dX7_read_21 ⟨by decide +kernel, by unfold InR; decide⟩ ?_
    refine e_goto (tgt := 28) dX7_read_23 (by decide) ?_
    exact e_sub (ls2 := [(0, vR x0), (1, vR x1)]) [0, 1] rfl h
set_option maxRecDepth 100000 in
set_option maxHeartbeats 4000000 in
theorem bX7_read_28 {G : Gl} {S : Sh} {I : MI} {R : MR} {Q : Sh → MI → MR → Prop} {x0 : Nat} {x1 : Nat} {y0 : Int} (h : ((y0 ≠ 45 → LX7_read_47 G x0 x1 y0 0 S I R Q) ∧ (¬ (y0 ≠ 45) → (sT S x0 = 7 ∧ (∀ I42, I42 = up2 I x0 5 (w32 ((I x0 5) + 1)) → LX7_read_47 G x0 x1 y0 0 S I42 R Q))))) : LX7_read_28 G x0 x1 y0 S I R Q := by
  show E G MX7_read 28 [(0, vR x0), (1, vR x1)] [vI y0] S I R (qV Q)
  refine e_istore_n (ls2 := [(2, vI y0), (0, vR x0), (1, vR x1)]) dX7_read_28 (by decide) rfl ?_
  refine e_iload_n 0 dX7_read_29 rfl ?_
  refine e_bipush (x := 45) dX7_read_30 ⟨by decide +kernel, by unfold InR; decide⟩ ?_
  refine e_icmp_ne (tgt := 45) dX7_read_32 (by decide) (fun c => ?_) (fun c => ?_)
  · replace h := h.1 c
    refine e_iconst dX7_read_45 (by unfold InR; decide) ?_
    refine e_istore_n (ls2 := [(3, vI 0), (2, vI y0), (0, vR x0), (1, vR x1)]) dX7_read_46 (by decide) rfl ?_
    exact e_sub (ls2 := [(0, vR x0), (1, vR x1), (2, vI y0), (3, vI 0)]) [2, 3, 1, 0] rfl h
  · replace h := h.2 c
    refine e_aload_n 1 dX7_read_35 rfl ?_
    refine e_dup dX7_read_36 rfl ?_
    have o4 := h.1
    replace h := h.2
    refine e_getI dX7_read_37 flX7_37 rfl o4 ?_
    refine e_iconst dX7_read_40 (by unfold InR; decide) ?_
    refine e_iadd dX7_read_41 ?_
    obtain ⟨I42, eI42⟩ : ∃ z : MI, z = up2 I x0 5 (w32 ((I x0 5) + 1)) := ⟨_, rfl⟩
    replace h := h I42 eI42
    refine e_putI dX7_read_42 flX7_37 rfl (Or.inl rfl) o4 (eqI eI42 ?_)
    refine e_iconst dX7_read_45 (by unfold InR; decide) ?_
    refine e_istore_n (ls2 := [(3, vI 0), (2, vI y0), (0, vR x0), (1, vR x1)]) dX7_read_46 (by decide) rfl ?_
    exact e_sub (ls2 := [(0, vR x0), (1, vR x1), (2, vI y0), (3, vI 0)]) [2, 3, 1, 0] rfl h
set_option maxRecDepth 100000 in
set_option maxHeartbeats 4000000 in
theorem bX7_read_47 {G : Gl} {S : Sh} {I : MI} {R : MR} {Q : Sh → MI → MR → Prop} {x0 : Nat} {x1 : Nat} {x2 : Int} {x3 : Int} (h : ((101 ≤ x3 → LX7_read_131 G x0 S I R Q) ∧ (¬ (101 ≤ x3) → (sT S x0 = 7 ∧ (((I x0 2) ≠ 0 → LX7_read_131 G x0 S I R Q) ∧ (¬ ((I x0 2) ≠ 0) → ((x2 = (-1) → LX7_read_131 G x0 S I R Q) ∧ (¬ (x2 = (-1)) → ((x2 ≠ 45 → LX7_read_77 G x0 x1 x3 0 x0 S I R Q) ∧ (¬ (x2 ≠ 45) → LX7_read_77 G x0 x1 x3 1 x0 S I R Q)))))))))) : LX7_read_47 G x0 x1 x2 x3 S I R Q := by
  show E G MX7_read 47 [(0, vR x0), (1, vR x1), (2, vI x2), (3, vI x3)] [] S I R (qV Q)
  refine e_iload_n 3 dX7_read_47 rfl ?_
  refine e_bipush (x := 101) dX7_read_48 ⟨by decide +kernel, by unfold InR; decide⟩ ?_
  refine e_icmp_ge (tgt := 131) dX7_read_50 (by decide) (fun c => ?_) (fun c => ?_)
  · replace h := h.1 c
    exact e_sub (ls2 := [(0, vR x0)]) [0] rfl h
  · replace h := h.2 c
    refine e_aload_n 0 dX7_read_53 rfl ?_
    have o5 := h.1
    replace h := h.2
    refine e_getI dX7_read_54 flX7_34 rfl o5 ?_
    refine e_if_ne (tgt := 131) dX7_read_57 (by decide) (fun c => ?_) (fun c => ?_)
    · replace h := h.1 c
      exact e_sub (ls2 := [(0, vR x0)]) [0] rfl h
    · replace h := h.2 c
      refine e_iload_n 2 dX7_read_60 rfl ?_
      refine e_iconst dX7_read_61 (by unfold InR; decide) ?_
      refine e_icmp_eq (tgt := 131) dX7_read_62 (by decide) (fun c => ?_) (fun c => ?_)
      · replace h := h.1 c
        exact e_sub (ls2 := [(0, vR x0)]) [0] rfl h
      · replace h := h.2 c
        refine e_aload_n 0 dX7_read_65 rfl ?_
        refine e_iload_n 2 dX7_read_66 rfl ?_
        refine e_bipush (x := 45) dX7_read_67 ⟨by decide +kernel, by unfold InR; decide⟩ ?_
        refine e_icmp_ne (tgt := 76) dX7_read_69 (by decide) (fun c => ?_) (fun c => ?_)
        · replace h := h.1 c
          refine e_iconst dX7_read_76 (by unfold InR; decide) ?_
          exact e_sub (ls2 := [(0, vR x0), (1, vR x1), (3, vI x3)]) [0, 1, 3] rfl h
        · replace h := h.2 c
          refine e_iconst dX7_read_72 (by unfold InR; decide) ?_
          refine e_goto (tgt := 77) dX7_read_73 (by decide) ?_
          exact e_sub (ls2 := [(0, vR x0), (1, vR x1), (3, vI x3)]) [0, 1, 3] rfl h
set_option maxRecDepth 100000 in
set_option maxHeartbeats 4000000 in
theorem bX7_read_131 {G : Gl} {S : Sh} {I : MI} {R : MR} {Q : Sh → MI → MR → Prop} {x0 : Nat} (h : (sT S x0 = 7 ∧ (sT S (R x0 4) = 5 ∧ (CV G MX5_dropZeros [vR (R x0 4)] S I R (fun S135 I135 R135 => (sT S135 x0 = 7 ∧ (sT S135 (R135 x0 4) = 5 ∧ (((I135 (R135 x0 4) 2) ≤ 60 → Q S135 I135 R135) ∧ (¬ ((I135 (R135 x0 4) 2) ≤ 60) → (CV G MX7_blame [vR x0, vI 3, vI (I135 x0 1)] S135 I135 R135 (fun S156 I156 R156 => Q S156 I156 R156))))))))))) : LX7_read_131 G x0 S I R Q := by
  show E G MX7_read 131 [(0, vR x0)] [] S I R (qV Q)
  refine e_aload_n 0 dX7_read_131 rfl ?_
  have o6 := h.1
  replace h := h.2
  refine e_getR dX7_read_132 flX7_24 rfl o6 ?_
  have o7 := h.1
  replace h := h.2
  refine i_VV (μ' := MX5_dropZeros) (ci := 4) (r := (R x0 4)) (as := []) (st := []) rfl dX7_read_135 mOKX5_dropZeros ⟨mlX7_55, imX5_dropZeros, seX5_dropZeros⟩ (by decide) (Nat.le_of_ble_eq_true rfl) rfl (Nat.le_of_ble_eq_true rfl) ⟨by decide, rfl⟩ o7 (CV.mono h ?_)
  clear h
  intro S135 I135 R135 h
  refine e_aload_n 0 dX7_read_138 rfl ?_
  have o8 := h.1
  replace h := h.2
  refine e_getR dX7_read_139 flX7_24 rfl o8 ?_
  have o9 := h.1
  replace h := h.2
  refine e_getI dX7_read_142 flX7_58 rfl o9 ?_
  refine e_bipush (x := 60) dX7_read_145 ⟨by decide +kernel, by unfold InR; decide⟩ ?_
  refine e_icmp_le (tgt := 159) dX7_read_147 (by decide) (fun c => ?_) (fun c => ?_)
  · replace h := h.1 c
    exact e_return dX7_read_159 rfl ⟨rfl, h⟩
  · replace h := h.2 c
    refine e_aload_n 0 dX7_read_150 rfl ?_
    refine e_iconst dX7_read_151 (by unfold InR; decide) ?_
    refine e_aload_n 0 dX7_read_152 rfl ?_
    refine e_getI dX7_read_153 flX7_31 rfl o8 ?_
    refine i_VV (μ' := MX7_blame) (ci := 6) (r := x0) (as := [vI 3, vI (I135 x0 1)]) (st := []) rfl dX7_read_156 mOKX7_blame ⟨mlX7_51, imX7_blame, seX7_blame⟩ (by decide) (Nat.le_of_ble_eq_true rfl) rfl (Nat.le_of_ble_eq_true rfl) ⟨by decide, rfl⟩ o8 (CV.mono h ?_)
    clear h
    intro S156 I156 R156 h
    exact e_return dX7_read_159 rfl ⟨rfl, h⟩
set_option maxRecDepth 100000 in
set_option maxHeartbeats 4000000 in
theorem bX7_read_77 {G : Gl} {S : Sh} {I : MI} {R : MR} {Q : Sh → MI → MR → Prop} {x0 : Nat} {x1 : Nat} {x3 : Int} {y0 : Int} {y1 : Nat} (h : (sT S y1 = 7 ∧ (CV G MX7_readSummand [vR y1, vI y0, vR x1] S I R (fun S78 I78 R78 => (sT S78 x0 = 7 ∧ (CI G MX7_ahead [vR x0] S78 I78 R78 (fun S82 I82 R82 x82_ => ((x82_ = 43 → (sT S82 x0 = 7 ∧ (∀ I105, I105 = up2 I82 x0 5 (w32 ((I82 x0 5) + 1)) → LX7_read_47 G x0 x1 x82_ (w32 (x3 + 1)) S82 I105 R82 Q))) ∧ (¬ (x82_ = 43) → ((x82_ ≠ 45 → ((x82_ = (-1) → LX7_read_47 G x0 x1 x82_ (w32 (x3 + 1)) S82 I82 R82 Q) ∧ (¬ (x82_ = (-1)) → (sT S82 x0 = 7 ∧ (CV G MX7_blame [vR x0, vI 1, vI (I82 x0 5)] S82 I82 R82 (fun S122 I122 R122 => LX7_read_47 G x0 x1 x82_ (w32 (x3 + 1)) S122 I122 R122 Q)))))) ∧ (¬ (x82_ ≠ 45) → (sT S82 x0 = 7 ∧ (∀ I105, I105 = up2 I82 x0 5 (w32 ((I82 x0 5) + 1)) → LX7_read_47 G x0 x1 x82_ (w32 (x3 + 1)) S82 I105 R82 Q))))))))))))) : LX7_read_77 G x0 x1 x3 y0 y1 S I R Q := by
  show E G MX7_read 77 [(0, vR x0), (1, vR x1), (3, vI x3)] [vI y0, vR y1] S I R (qV Q)
  refine e_aload_n 1 dX7_read_77 rfl ?_
  have o10 := h.1
  replace h := h.2
  refine i_VV (μ' := MX7_readSummand) (ci := 6) (r := y1) (as := [vI y0, vR x1]) (st := []) rfl dX7_read_78 mOKX7_readSummand ⟨mlX7_47, imX7_readSummand, seX7_readSummand⟩ (by decide) (Nat.le_of_ble_eq_true rfl) rfl (Nat.le_of_ble_eq_true rfl) ⟨by decide, rfl⟩ o10 (CV.mono h ?_)
  clear h
  intro S78 I78 R78 h
  refine e_aload_n 0 dX7_read_81 rfl ?_
  have o11 := h.1
  replace h := h.2
  refine i_VI (μ' := MX7_ahead) (ci := 6) (r := x0) (as := []) (st := []) rfl dX7_read_82 mOKX7_ahead ⟨mlX7_43, imX7_ahead, seX7_ahead⟩ (by decide) (Nat.le_of_ble_eq_true rfl) rfl (Nat.le_of_ble_eq_true rfl) ⟨by decide, rfl⟩ o11 (CI.mono h ?_)
  clear h
  intro S82 I82 R82 x82_ h
  refine e_istore_n (ls2 := [(2, vI x82_), (0, vR x0), (1, vR x1), (3, vI x3)]) dX7_read_85 (by decide) rfl ?_
  refine e_iload_n 0 dX7_read_86 rfl ?_
  refine e_bipush (x := 43) dX7_read_87 ⟨by decide +kernel, by unfold InR; decide⟩ ?_
  refine e_icmp_eq (tgt := 98) dX7_read_89 (by decide) (fun c => ?_) (fun c => ?_)
  · replace h := h.1 c
    refine e_aload_n 1 dX7_read_98 rfl ?_
    refine e_dup dX7_read_99 rfl ?_
    have o12 := h.1
    replace h := h.2
    refine e_getI dX7_read_100 flX7_37 rfl o12 ?_
    refine e_iconst dX7_read_103 (by unfold InR; decide) ?_
    refine e_iadd dX7_read_104 ?_
    obtain ⟨I105, eI105⟩ : ∃ z : MI, z = up2 I82 x0 5 (w32 ((I82 x0 5) + 1)) := ⟨_, rfl⟩
    replace h := h I105 eI105
    refine e_putI dX7_read_105 flX7_37 rfl (Or.inl rfl) o12 (eqI eI105 ?_)
    refine e_goto (tgt := 125) dX7_read_108 (by decide) ?_
    refine e_iinc (ls2 := [(3, vI (w32 (x3 + 1))), (2, vI x82_), (0, vR x0), (1, vR x1)]) 3 dX7_read_125 rfl (by decide) rfl ?_
    refine e_goto (tgt := 47) dX7_read_128 (by decide) ?_
    exact e_sub (ls2 := [(0, vR x0), (1, vR x1), (2, vI x82_), (3, vI (w32 (x3 + 1)))]) [2, 3, 1, 0] rfl h
  · replace h := h.2 c
    refine e_iload_n 0 dX7_read_92 rfl ?_
    refine e_bipush (x := 45) dX7_read_93 ⟨by decide +kernel, by unfold InR; decide⟩ ?_
    refine e_icmp_ne (tgt := 111) dX7_read_95 (by decide) (fun c => ?_) (fun c => ?_)
    · replace h := h.1 c
      refine e_iload_n 0 dX7_read_111 rfl ?_
      refine e_iconst dX7_read_112 (by unfold InR; decide) ?_
      refine e_icmp_eq (tgt := 125) dX7_read_113 (by decide) (fun c => ?_) (fun c => ?_)
      · replace h := h.1 c
        refine e_iinc (ls2 := [(3, vI (w32 (x3 + 1))), (2, vI x82_), (0, vR x0), (1, vR x1)]) 3 dX7_read_125 rfl (by decide) rfl ?_
        refine e_goto (tgt := 47) dX7_read_128 (by decide) ?_
        exact e_sub (ls2 := [(0, vR x0), (1, vR x1), (2, vI x82_), (3, vI (w32 (x3 + 1)))]) [2, 3, 1, 0] rfl h
      · replace h := h.2 c
        refine e_aload_n 1 dX7_read_116 rfl ?_
        refine e_iconst dX7_read_117 (by unfold InR; decide) ?_
        refine e_aload_n 1 dX7_read_118 rfl ?_
        have o13 := h.1
        replace h := h.2
        refine e_getI dX7_read_119 flX7_37 rfl o13 ?_
        refine i_VV (μ' := MX7_blame) (ci := 6) (r := x0) (as := [vI 1, vI (I82 x0 5)]) (st := []) rfl dX7_read_122 mOKX7_blame ⟨mlX7_51, imX7_blame, seX7_blame⟩ (by decide) (Nat.le_of_ble_eq_true rfl) rfl (Nat.le_of_ble_eq_true rfl) ⟨by decide, rfl⟩ o13 (CV.mono h ?_)
        clear h
        intro S122 I122 R122 h
        refine e_iinc (ls2 := [(3, vI (w32 (x3 + 1))), (2, vI x82_), (0, vR x0), (1, vR x1)]) 3 dX7_read_125 rfl (by decide) rfl ?_
        refine e_goto (tgt := 47) dX7_read_128 (by decide) ?_
        exact e_sub (ls2 := [(0, vR x0), (1, vR x1), (2, vI x82_), (3, vI (w32 (x3 + 1)))]) [2, 3, 1, 0] rfl h
    · replace h := h.2 c
      refine e_aload_n 1 dX7_read_98 rfl ?_
      refine e_dup dX7_read_99 rfl ?_
      have o14 := h.1
      replace h := h.2
      refine e_getI dX7_read_100 flX7_37 rfl o14 ?_
      refine e_iconst dX7_read_103 (by unfold InR; decide) ?_
      refine e_iadd dX7_read_104 ?_
      obtain ⟨I105, eI105⟩ : ∃ z : MI, z = up2 I82 x0 5 (w32 ((I82 x0 5) + 1)) := ⟨_, rfl⟩
      replace h := h I105 eI105
      refine e_putI dX7_read_105 flX7_37 rfl (Or.inl rfl) o14 (eqI eI105 ?_)
      refine e_goto (tgt := 125) dX7_read_108 (by decide) ?_
      refine e_iinc (ls2 := [(3, vI (w32 (x3 + 1))), (2, vI x82_), (0, vR x0), (1, vR x1)]) 3 dX7_read_125 rfl (by decide) rfl ?_
      refine e_goto (tgt := 47) dX7_read_128 (by decide) ?_
      exact e_sub (ls2 := [(0, vR x0), (1, vR x1), (2, vI x82_), (3, vI (w32 (x3 + 1)))]) [2, 3, 1, 0] rfl h
