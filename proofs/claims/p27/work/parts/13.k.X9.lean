def LX9_polys_11 (G : Gl) (x1 : Nat) (x2 : Int) (S : Sh) (I : MI) (R : MR) (Q : Sh → MI → MR → Nat → Prop) : Prop := E G MX9_polys 11 [(1, vR x1), (2, vI x2)] [] S I R (qR Q)
set_option maxRecDepth 100000 in
set_option maxHeartbeats 4000000 in
theorem bX9_polys {G : Gl} {S : Sh} {I : MI} {R : MR} {Q : Sh → MI → MR → Nat → Prop} {x0 : Int} (h : (∃ n5 : Nat, (max x0 0) = (n5 : Int) ∧ n5 ≤ 100000000 ∧ (∀ S5 I5 R5, S5 = shNew S 24 n5 n5 → I5 = mNew I (sN S) 0 → R5 = mNew R (sN S) 0 → LX9_polys_11 G (sN S) 0 S5 I5 R5 Q))) : CR G MX9_polys [vI x0] S I R Q := by
  show E G MX9_polys 0 [(0, vI x0)] [] S I R (qR Q)
  refine e_iload_n 0 dX9_polys_0 rfl ?_
  refine e_iconst dX9_polys_1 (by unfold InR; decide) ?_
  refine e_mmax dX9_polys_2 mmX9_259 mxmax (by decide) (Nat.le_of_ble_eq_true rfl) ?_
  obtain ⟨n5, h0, h1, h⟩ := h
  obtain ⟨S5, eS5⟩ : ∃ z : Sh, z = shNew S 24 n5 n5 := ⟨_, rfl⟩
  obtain ⟨I5, eI5⟩ : ∃ z : MI, z = mNew I (sN S) 0 := ⟨_, rfl⟩
  obtain ⟨R5, eR5⟩ : ∃ z : MR, z = mNew R (sN S) 0 := ⟨_, rfl⟩
  replace h := h S5 I5 R5 eS5 eI5 eR5
  refine e_anew (t := 24) (C := RX5) (n := n5) dX9_polys_5 (by decide) (by decide) rfl ⟨clX9_55, Or.inl rfl⟩ h0 h1 (eqS eS5 (eqI eI5 (eqR eR5 ?_)))
  refine e_astore_n (ls2 := [(1, vR (sN S)), (0, vI x0)]) dX9_polys_8 (by decide) rfl ?_
  refine e_iconst dX9_polys_9 (by unfold InR; decide) ?_
  refine e_istore_n (ls2 := [(2, vI 0), (1, vR (sN S)), (0, vI x0)]) dX9_polys_10 (by decide) rfl ?_
  exact e_sub (ls2 := [(1, vR (sN S)), (2, vI 0)]) [1, 0] rfl h
set_option maxRecDepth 100000 in
set_option maxHeartbeats 4000000 in
theorem bX9_polys_11 {G : Gl} {S : Sh} {I : MI} {R : MR} {Q : Sh → MI → MR → Nat → Prop} {x1 : Nat} {x2 : Int} (h : (21 ≤ sT S x1 ∧ (((sL S x1 : Int) ≤ x2 → Q S I R x1) ∧ (¬ ((sL S x1 : Int) ≤ x2) → (∀ S19 I19 R19, S19 = shNew S 5 0 3 → I19 = mNew I (sN S) 0 → R19 = mNew R (sN S) 0 → (sT S19 (sN S) ≠ 0 ∧ (CV G MX5_init [vR (sN S), vI 60] S19 I19 R19 (fun S25 I25 R25 => (sT S25 x1 = 24 ∧ (((0 : Int) ≤ x2 ∧ x2 < (sL S25 x1 : Int)) ∧ (sT S25 (sN S) = 5 ∧ (∀ R28, R28 = up2 R25 x1 (Int.toNat x2) (sN S) → LX9_polys_11 G x1 (w32 (x2 + 1)) S25 I25 R28 Q)))))))))))) : LX9_polys_11 G x1 x2 S I R Q := by
  show E G MX9_polys 11 [(1, vR x1), (2, vI x2)] [] S I R (qR Q)
  refine e_iload_n 1 dX9_polys_11 rfl ?_
  refine e_aload_n 0 dX9_polys_12 rfl ?_
  have o1 := h.1
  replace h := h.2
  refine e_alen dX9_polys_13 o1 ?_
  refine e_icmp_ge (tgt := 35) dX9_polys_14 (by decide) (fun c => ?_) (fun c => ?_)
  · replace h := h.1 c
    refine e_aload_n 0 dX9_polys_35 rfl ?_
    exact e_areturnA dX9_polys_36 ⟨_, rfl⟩ ⟨_, rfl, h⟩
  · replace h := h.2 c
    refine e_aload_n 0 dX9_polys_17 rfl ?_
    refine e_iload_n 1 dX9_polys_18 rfl ?_
    obtain ⟨S19, eS19⟩ : ∃ z : Sh, z = shNew S 5 0 3 := ⟨_, rfl⟩
    obtain ⟨I19, eI19⟩ : ∃ z : MI, z = mNew I (sN S) 0 := ⟨_, rfl⟩
    obtain ⟨R19, eR19⟩ : ∃ z : MR, z = mNew R (sN S) 0 := ⟨_, rfl⟩
    replace h := h S19 I19 R19 eS19 eI19 eR19
    refine e_new (ci := 4) dX9_polys_19 (by decide) ⟨clX9_55, is4, ii4⟩ (eqS eS19 (eqI eI19 (eqR eR19 ?_)))
    refine e_dup dX9_polys_22 rfl ?_
    refine e_bipush (x := 60) dX9_polys_23 ⟨by decide +kernel, by unfold InR; decide⟩ ?_
    have o2 := h.1
    replace h := h.2
    refine i_IV (μ' := MX5_init) (r := (sN S)) (as := [vI 60]) (st := [vR (sN S), vI x2, vR x1]) rfl dX9_polys_25 mOKX5_init ⟨mlX9_57, imX5_init⟩ ⟨rfl, rfl⟩ (by decide) (Nat.le_of_ble_eq_true rfl) rfl (Nat.le_of_ble_eq_true rfl) o2 (CV.mono h ?_)
    clear h
    intro S25 I25 R25 h
    have o3 := h.1
    replace h := h.2
    have o4 := h.1
    replace h := h.2
    have o5 := h.1
    replace h := h.2
    obtain ⟨R28, eR28⟩ : ∃ z : MR, z = up2 R25 x1 (Int.toNat x2) (sN S) := ⟨_, rfl⟩
    replace h := h R28 eR28
    refine e_aast (t := 24) dX9_polys_28 o3 (Or.inl ⟨rfl, o5⟩) o4 (eqR eR28 ?_)
    refine e_iinc (ls2 := [(2, vI (w32 (x2 + 1))), (1, vR x1)]) 1 dX9_polys_29 rfl (by decide) rfl ?_
    refine e_goto (tgt := 11) dX9_polys_32 (by decide) ?_
    exact e_sub (ls2 := [(1, vR x1), (2, vI (w32 (x2 + 1)))]) [1, 0] rfl h

def LX9_init_67 (G : Gl) (x0 : Nat) (x1 : Int) (S : Sh) (I : MI) (R : MR) (Q : Sh → MI → MR → Prop) : Prop := E G MX9_init 67 [(0, vR x0), (1, vI x1)] [] S I R (qV Q)
set_option maxRecDepth 100000 in
set_option maxHeartbeats 4000000 in
theorem bX9_init {G : Gl} {S : Sh} {I : MI} {R : MR} {Q : Sh → MI → MR → Prop} {x0 : Nat} (h : (sT S x0 ≠ 0 ∧ (∀ S5 I5 R5, S5 = shNew S 6 0 7 → I5 = mNew I (sN S) 0 → R5 = mNew R (sN S) 0 → (sT S5 (sN S) ≠ 0 ∧ (CV G MX6_init [vR (sN S)] S5 I5 R5 (fun S9 I9 R9 => (sT S9 x0 = 9 ∧ (∀ R12, R12 = up2 R9 x0 0 (sN S) → (CR G MX9_polys [vI 8] S9 I9 R12 (fun S18 I18 R18 x18_ => (sT S18 x0 = 9 ∧ (∀ R21, R21 = up2 R18 x0 1 x18_ → (∀ S25 I25 R25, S25 = shNew S18 7 0 8 → I25 = mNew I18 (sN S18) 0 → R25 = mNew R21 (sN S18) 0 → (sT S25 (sN S18) ≠ 0 ∧ (CV G MX7_init [vR (sN S18)] S25 I25 R25 (fun S29 I29 R29 => (sT S29 x0 = 9 ∧ (∀ R32, R32 = up2 R29 x0 2 (sN S18) → (∀ S36 I36 R36, S36 = shNew S29 8 0 2 → I36 = mNew I29 (sN S29) 0 → R36 = mNew R32 (sN S29) 0 → (sT S36 (sN S29) ≠ 0 ∧ (CV G MX8_init [vR (sN S29)] S36 I36 R36 (fun S40 I40 R40 => (sT S40 x0 = 9 ∧ (∀ R43, R43 = up2 R40 x0 3 (sN S29) → (∀ S47 I47 R47, S47 = shNew S40 1 0 9 → I47 = mNew I40 (sN S40) 0 → R47 = mNew R43 (sN S40) 0 → (sT S47 (sN S40) ≠ 0 ∧ (CV G MX0_init [vR (sN S40)] S47 I47 R47 (fun S51 I51 R51 => (sT S51 x0 = 9 ∧ (∀ R54, R54 = up2 R51 x0 4 (sN S40) → (∀ S59 I59 R59, S59 = shNew S51 26 4 4 → I59 = mNew I51 (sN S51) 0 → R59 = mNew R54 (sN S51) 0 → (sT S59 x0 = 9 ∧ (∀ R62, R62 = up2 R59 x0 5 (sN S51) → LX9_init_67 G x0 0 S59 I59 R62 Q))))))))))))))))))))))))))))))))) : CV G MX9_init [vR x0] S I R Q := by
  show E G MX9_init 0 [(0, vR x0)] [] S I R (qV Q)
  refine e_aload_n 0 dX9_init_0 rfl ?_
  have o1 := h.1
  replace h := h.2
  refine e_objI dX9_init_1 ⟨moX9_3, oc⟩ (by decide) (Nat.le_of_ble_eq_true rfl) o1 ?_
  refine e_aload_n 0 dX9_init_4 rfl ?_
  obtain ⟨S5, eS5⟩ : ∃ z : Sh, z = shNew S 6 0 7 := ⟨_, rfl⟩
  obtain ⟨I5, eI5⟩ : ∃ z : MI, z = mNew I (sN S) 0 := ⟨_, rfl⟩
  obtain ⟨R5, eR5⟩ : ∃ z : MR, z = mNew R (sN S) 0 := ⟨_, rfl⟩
  replace h := h S5 I5 R5 eS5 eI5 eR5
  refine e_new (ci := 5) dX9_init_5 (by decide) ⟨clX9_9, is5, ii5⟩ (eqS eS5 (eqI eI5 (eqR eR5 ?_)))
  refine e_dup dX9_init_8 rfl ?_
  have o2 := h.1
  replace h := h.2
  refine i_IV (μ' := MX6_init) (r := (sN S)) (as := []) (st := [vR (sN S), vR x0]) rfl dX9_init_9 mOKX6_init ⟨mlX9_11, imX6_init⟩ ⟨rfl, rfl⟩ (by decide) (Nat.le_of_ble_eq_true rfl) rfl (Nat.le_of_ble_eq_true rfl) o2 (CV.mono h ?_)
  clear h
  intro S9 I9 R9 h
  have o3 := h.1
  replace h := h.2
  obtain ⟨R12, eR12⟩ : ∃ z : MR, z = up2 R9 x0 0 (sN S) := ⟨_, rfl⟩
  replace h := h R12 eR12
  refine e_putR dX9_init_12 flX9_12 rfl (Or.inr ⟨rfl, rfl, rfl⟩) o3 (eqR eR12 ?_)
  refine e_aload_n 0 dX9_init_15 rfl ?_
  refine e_bipush (x := 8) dX9_init_16 ⟨by decide +kernel, by unfold InR; decide⟩ ?_
  refine i_SR (μ' := MX9_polys) (as := [vI 8]) (st := [vR x0]) rfl dX9_init_18 mOKX9_polys ⟨mlX9_16, stX9_polys⟩ (by decide) (Nat.le_of_ble_eq_true rfl) rfl (Nat.le_of_ble_eq_true rfl) (CR.mono h ?_)
  clear h
  intro S18 I18 R18 x18_ h
  have o4 := h.1
  replace h := h.2
  obtain ⟨R21, eR21⟩ : ∃ z : MR, z = up2 R18 x0 1 x18_ := ⟨_, rfl⟩
  replace h := h R21 eR21
  refine e_putR dX9_init_21 flX9_20 rfl (Or.inr ⟨rfl, rfl, rfl⟩) o4 (eqR eR21 ?_)
  refine e_aload_n 0 dX9_init_24 rfl ?_
  obtain ⟨S25, eS25⟩ : ∃ z : Sh, z = shNew S18 7 0 8 := ⟨_, rfl⟩
  obtain ⟨I25, eI25⟩ : ∃ z : MI, z = mNew I18 (sN S18) 0 := ⟨_, rfl⟩
  obtain ⟨R25, eR25⟩ : ∃ z : MR, z = mNew R21 (sN S18) 0 := ⟨_, rfl⟩
  replace h := h S25 I25 R25 eS25 eI25 eR25
  refine e_new (ci := 6) dX9_init_25 (by decide) ⟨clX9_24, is6, ii6⟩ (eqS eS25 (eqI eI25 (eqR eR25 ?_)))
  refine e_dup dX9_init_28 rfl ?_
  have o5 := h.1
  replace h := h.2
  refine i_INV (μ' := MX7_init) (r := (sN S18)) (as := []) (st := [vR (sN S18), vR x0]) rfl dX9_init_29 mOKX7_init ⟨mnX9_26, imX7_init⟩ ⟨rfl, rfl⟩ (by decide) (Nat.le_of_ble_eq_true rfl) rfl (Nat.le_of_ble_eq_true rfl) o5 (CV.mono h ?_)
  clear h
  intro S29 I29 R29 h
  have o6 := h.1
  replace h := h.2
  obtain ⟨R32, eR32⟩ : ∃ z : MR, z = up2 R29 x0 2 (sN S18) := ⟨_, rfl⟩
  replace h := h R32 eR32
  refine e_putR dX9_init_32 flX9_27 rfl (Or.inr ⟨rfl, rfl, rfl⟩) o6 (eqR eR32 ?_)
  refine e_aload_n 0 dX9_init_35 rfl ?_
  obtain ⟨S36, eS36⟩ : ∃ z : Sh, z = shNew S29 8 0 2 := ⟨_, rfl⟩
  obtain ⟨I36, eI36⟩ : ∃ z : MI, z = mNew I29 (sN S29) 0 := ⟨_, rfl⟩
  obtain ⟨R36, eR36⟩ : ∃ z : MR, z = mNew R32 (sN S29) 0 := ⟨_, rfl⟩
  replace h := h S36 I36 R36 eS36 eI36 eR36
  refine e_new (ci := 7) dX9_init_36 (by decide) ⟨clX9_31, is7, ii7⟩ (eqS eS36 (eqI eI36 (eqR eR36 ?_)))
  refine e_dup dX9_init_39 rfl ?_
  have o7 := h.1
  replace h := h.2
  refine i_INV (μ' := MX8_init) (r := (sN S29)) (as := []) (st := [vR (sN S29), vR x0]) rfl dX9_init_40 mOKX8_init ⟨mnX9_33, imX8_init⟩ ⟨rfl, rfl⟩ (by decide) (Nat.le_of_ble_eq_true rfl) rfl (Nat.le_of_ble_eq_true rfl) o7 (CV.mono h ?_)
  clear h
  intro S40 I40 R40 h
  have o8 := h.1
  replace h := h.2
  obtain ⟨R43, eR43⟩ : ∃ z : MR, z = up2 R40 x0 3 (sN S29) := ⟨_, rfl⟩
  replace h := h R43 eR43
  refine e_putR dX9_init_43 flX9_34 rfl (Or.inr ⟨rfl, rfl, rfl⟩) o8 (eqR eR43 ?_)
  refine e_aload_n 0 dX9_init_46 rfl ?_
  obtain ⟨S47, eS47⟩ : ∃ z : Sh, z = shNew S40 1 0 9 := ⟨_, rfl⟩
  obtain ⟨I47, eI47⟩ : ∃ z : MI, z = mNew I40 (sN S40) 0 := ⟨_, rfl⟩
  obtain ⟨R47, eR47⟩ : ∃ z : MR, z = mNew R43 (sN S40) 0 := ⟨_, rfl⟩
  replace h := h S47 I47 R47 eS47 eI47 eR47
  refine e_new (ci := 0) dX9_init_47 (by decide) ⟨clX9_38, is0, ii0⟩ (eqS eS47 (eqI eI47 (eqR eR47 ?_)))
  refine e_dup dX9_init_50 rfl ?_
  have o9 := h.1
  replace h := h.2
  refine i_IV (μ' := MX0_init) (r := (sN S40)) (as := []) (st := [vR (sN S40), vR x0]) rfl dX9_init_51 mOKX0_init ⟨mlX9_40, imX0_init⟩ ⟨rfl, rfl⟩ (by decide) (Nat.le_of_ble_eq_true rfl) rfl (Nat.le_of_ble_eq_true rfl) o9 (CV.mono h ?_)
  clear h
  intro S51 I51 R51 h
  have o10 := h.1
  replace h := h.2
  obtain ⟨R54, eR54⟩ : ∃ z : MR, z = up2 R51 x0 4 (sN S40) := ⟨_, rfl⟩
  replace h := h R54 eR54
  refine e_putR dX9_init_54 flX9_41 rfl (Or.inr ⟨rfl, rfl, rfl⟩) o10 (eqR eR54 ?_)
  refine e_aload_n 0 dX9_init_57 rfl ?_
  refine e_iconst dX9_init_58 (by unfold InR; decide) ?_
  obtain ⟨S59, eS59⟩ : ∃ z : Sh, z = shNew S51 26 4 4 := ⟨_, rfl⟩
  obtain ⟨I59, eI59⟩ : ∃ z : MI, z = mNew I51 (sN S51) 0 := ⟨_, rfl⟩
  obtain ⟨R59, eR59⟩ : ∃ z : MR, z = mNew R54 (sN S51) 0 := ⟨_, rfl⟩
  replace h := h S59 I59 R59 eS59 eI59 eR59
  refine e_anew (t := 26) (C := RX2) (n := 4) dX9_init_59 (by decide) (by decide) rfl ⟨clX9_45, Or.inr (Or.inr rfl)⟩ rfl (by decide) (eqS eS59 (eqI eI59 (eqR eR59 ?_)))
  have o11 := h.1
  replace h := h.2
  obtain ⟨R62, eR62⟩ : ∃ z : MR, z = up2 R59 x0 5 (sN S51) := ⟨_, rfl⟩
  replace h := h R62 eR62
  refine e_putR dX9_init_62 flX9_47 rfl (Or.inr ⟨rfl, rfl, rfl⟩) o11 (eqR eR62 ?_)
  refine e_iconst dX9_init_65 (by unfold InR; decide) ?_
  refine e_istore_n (ls2 := [(1, vI 0), (0, vR x0)]) dX9_init_66 (by decide) rfl ?_
  exact e_sub (ls2 := [(0, vR x0), (1, vI 0)]) [1, 0] rfl h
set_option maxRecDepth 100000 in
set_option maxHeartbeats 4000000 in
theorem bX9_init_67 {G : Gl} {S : Sh} {I : MI} {R : MR} {Q : Sh → MI → MR → Prop} {x0 : Nat} {x1 : Int} (h : ((4 ≤ x1 → (CR G MX9_polys [vI 4] S I R (fun S93 I93 R93 x93_ => (sT S93 x0 = 9 ∧ (∀ R96, R96 = up2 R93 x0 6 x93_ → (∀ S100 I100 R100, S100 = shNew S93 5 0 3 → I100 = mNew I93 (sN S93) 0 → R100 = mNew R96 (sN S93) 0 → (sT S100 (sN S93) ≠ 0 ∧ (CV G MX5_init [vR (sN S93), vI 60] S100 I100 R100 (fun S106 I106 R106 => (sT S106 x0 = 9 ∧ (∀ R109, R109 = up2 R106 x0 8 (sN S93) → (∀ S113 I113 R113, S113 = shNew S106 5 0 3 → I113 = mNew I106 (sN S106) 0 → R113 = mNew R109 (sN S106) 0 → (sT S113 (sN S106) ≠ 0 ∧ (CV G MX5_init [vR (sN S106), vI 3600] S113 I113 R113 (fun S120 I120 R120 => (sT S120 x0 = 9 ∧ (∀ R123, R123 = up2 R120 x0 9 (sN S106) → (∀ S127 I127 R127, S127 = shNew S120 5 0 3 → I127 = mNew I120 (sN S120) 0 → R127 = mNew R123 (sN S120) 0 → (sT S127 (sN S120) ≠ 0 ∧ (CV G MX5_init [vR (sN S120), vI 3600] S127 I127 R127 (fun S134 I134 R134 => (sT S134 x0 = 9 ∧ (∀ R137, R137 = up2 R134 x0 10 (sN S120) → Q S134 I134 R137))))))))))))))))))))))) ∧ (¬ (4 ≤ x1) → (sT S x0 = 9 ∧ (∀ S77 I77 R77, S77 = shNew S 3 0 4 → I77 = mNew I (sN S) 0 → R77 = mNew R (sN S) 0 → (sT S77 (sN S) ≠ 0 ∧ (CV G MX2_init [vR (sN S)] S77 I77 R77 (fun S81 I81 R81 => (sT S81 (R x0 5) = 26 ∧ (((0 : Int) ≤ x1 ∧ x1 < (sL S81 (R x0 5) : Int)) ∧ (sT S81 (sN S) = 3 ∧ (∀ R84, R84 = up2 R81 (R x0 5) (Int.toNat x1) (sN S) → LX9_init_67 G x0 (w32 (x1 + 1)) S81 I81 R84 Q)))))))))))) : LX9_init_67 G x0 x1 S I R Q := by
  show E G MX9_init 67 [(0, vR x0), (1, vI x1)] [] S I R (qV Q)
  refine e_iload_n 1 dX9_init_67 rfl ?_
  refine e_iconst dX9_init_68 (by unfold InR; decide) ?_
  refine e_icmp_ge (tgt := 91) dX9_init_69 (by decide) (fun c => ?_) (fun c => ?_)
  · replace h := h.1 c
    refine e_aload_n 0 dX9_init_91 rfl ?_
    refine e_iconst dX9_init_92 (by unfold InR; decide) ?_
    refine i_SR (μ' := MX9_polys) (as := [vI 4]) (st := [vR x0]) rfl dX9_init_93 mOKX9_polys ⟨mlX9_16, stX9_polys⟩ (by decide) (Nat.le_of_ble_eq_true rfl) rfl (Nat.le_of_ble_eq_true rfl) (CR.mono h ?_)
    clear h
    intro S93 I93 R93 x93_ h
    have o12 := h.1
    replace h := h.2
    obtain ⟨R96, eR96⟩ : ∃ z : MR, z = up2 R93 x0 6 x93_ := ⟨_, rfl⟩
    replace h := h R96 eR96
    refine e_putR dX9_init_96 flX9_52 rfl (Or.inr ⟨rfl, rfl, rfl⟩) o12 (eqR eR96 ?_)
    refine e_aload_n 0 dX9_init_99 rfl ?_
    obtain ⟨S100, eS100⟩ : ∃ z : Sh, z = shNew S93 5 0 3 := ⟨_, rfl⟩
    obtain ⟨I100, eI100⟩ : ∃ z : MI, z = mNew I93 (sN S93) 0 := ⟨_, rfl⟩
    obtain ⟨R100, eR100⟩ : ∃ z : MR, z = mNew R96 (sN S93) 0 := ⟨_, rfl⟩
    replace h := h S100 I100 R100 eS100 eI100 eR100
    refine e_new (ci := 4) dX9_init_100 (by decide) ⟨clX9_55, is4, ii4⟩ (eqS eS100 (eqI eI100 (eqR eR100 ?_)))
    refine e_dup dX9_init_103 rfl ?_
    refine e_bipush (x := 60) dX9_init_104 ⟨by decide +kernel, by unfold InR; decide⟩ ?_
    have o13 := h.1
    replace h := h.2
    refine i_IV (μ' := MX5_init) (r := (sN S93)) (as := [vI 60]) (st := [vR (sN S93), vR x0]) rfl dX9_init_106 mOKX5_init ⟨mlX9_57, imX5_init⟩ ⟨rfl, rfl⟩ (by decide) (Nat.le_of_ble_eq_true rfl) rfl (Nat.le_of_ble_eq_true rfl) o13 (CV.mono h ?_)
    clear h
    intro S106 I106 R106 h
    have o14 := h.1
    replace h := h.2
    obtain ⟨R109, eR109⟩ : ∃ z : MR, z = up2 R106 x0 8 (sN S93) := ⟨_, rfl⟩
    replace h := h R109 eR109
    refine e_putR dX9_init_109 flX9_60 rfl (Or.inl rfl) o14 (eqR eR109 ?_)
    refine e_aload_n 0 dX9_init_112 rfl ?_
    obtain ⟨S113, eS113⟩ : ∃ z : Sh, z = shNew S106 5 0 3 := ⟨_, rfl⟩
    obtain ⟨I113, eI113⟩ : ∃ z : MI, z = mNew I106 (sN S106) 0 := ⟨_, rfl⟩
    obtain ⟨R113, eR113⟩ : ∃ z : MR, z = mNew R109 (sN S106) 0 := ⟨_, rfl⟩
    replace h := h S113 I113 R113 eS113 eI113 eR113
    refine e_new (ci := 4) dX9_init_113 (by decide) ⟨clX9_55, is4, ii4⟩ (eqS eS113 (eqI eI113 (eqR eR113 ?_)))
    refine e_dup dX9_init_116 rfl ?_
    refine e_sipush (x := 3600) dX9_init_117 ⟨by decide +kernel, by unfold InR; decide⟩ ?_
    have o15 := h.1
    replace h := h.2
    refine i_IV (μ' := MX5_init) (r := (sN S106)) (as := [vI 3600]) (st := [vR (sN S106), vR x0]) rfl dX9_init_120 mOKX5_init ⟨mlX9_57, imX5_init⟩ ⟨rfl, rfl⟩ (by decide) (Nat.le_of_ble_eq_true rfl) rfl (Nat.le_of_ble_eq_true rfl) o15 (CV.mono h ?_)
    clear h
    intro S120 I120 R120 h
    have o16 := h.1
    replace h := h.2
    obtain ⟨R123, eR123⟩ : ∃ z : MR, z = up2 R120 x0 9 (sN S106) := ⟨_, rfl⟩
    replace h := h R123 eR123
    refine e_putR dX9_init_123 flX9_64 rfl (Or.inl rfl) o16 (eqR eR123 ?_)
    refine e_aload_n 0 dX9_init_126 rfl ?_
    obtain ⟨S127, eS127⟩ : ∃ z : Sh, z = shNew S120 5 0 3 := ⟨_, rfl⟩
    obtain ⟨I127, eI127⟩ : ∃ z : MI, z = mNew I120 (sN S120) 0 := ⟨_, rfl⟩
    obtain ⟨R127, eR127⟩ : ∃ z : MR, z = mNew R123 (sN S120) 0 := ⟨_, rfl⟩
    replace h := h S127 I127 R127 eS127 eI127 eR127
    refine e_new (ci := 4) dX9_init_127 (by decide) ⟨clX9_55, is4, ii4⟩ (eqS eS127 (eqI eI127 (eqR eR127 ?_)))
    refine e_dup dX9_init_130 rfl ?_
    refine e_sipush (x := 3600) dX9_init_131 ⟨by decide +kernel, by unfold InR; decide⟩ ?_
    have o17 := h.1
    replace h := h.2
    refine i_IV (μ' := MX5_init) (r := (sN S120)) (as := [vI 3600]) (st := [vR (sN S120), vR x0]) rfl dX9_init_134 mOKX5_init ⟨mlX9_57, imX5_init⟩ ⟨rfl, rfl⟩ (by decide) (Nat.le_of_ble_eq_true rfl) rfl (Nat.le_of_ble_eq_true rfl) o17 (CV.mono h ?_)
    clear h
    intro S134 I134 R134 h
    have o18 := h.1
    replace h := h.2
    obtain ⟨R137, eR137⟩ : ∃ z : MR, z = up2 R134 x0 10 (sN S120) := ⟨_, rfl⟩
    replace h := h R137 eR137
    refine e_putR dX9_init_137 flX9_67 rfl (Or.inl rfl) o18 (eqR eR137 ?_)
    exact e_return dX9_init_140 rfl ⟨rfl, h⟩
  · replace h := h.2 c
    refine e_aload_n 0 dX9_init_72 rfl ?_
    have o19 := h.1
    replace h := h.2
    refine e_getR dX9_init_73 flX9_47 rfl o19 ?_
    refine e_iload_n 1 dX9_init_76 rfl ?_
    obtain ⟨S77, eS77⟩ : ∃ z : Sh, z = shNew S 3 0 4 := ⟨_, rfl⟩
    obtain ⟨I77, eI77⟩ : ∃ z : MI, z = mNew I (sN S) 0 := ⟨_, rfl⟩
    obtain ⟨R77, eR77⟩ : ∃ z : MR, z = mNew R (sN S) 0 := ⟨_, rfl⟩
    replace h := h S77 I77 R77 eS77 eI77 eR77
    refine e_new (ci := 2) dX9_init_77 (by decide) ⟨clX9_45, is2, ii2⟩ (eqS eS77 (eqI eI77 (eqR eR77 ?_)))
    refine e_dup dX9_init_80 rfl ?_
    have o20 := h.1
    replace h := h.2
    refine i_INV (μ' := MX2_init) (r := (sN S)) (as := []) (st := [vR (sN S), vI x1, vR (R x0 5)]) rfl dX9_init_81 mOKX2_init ⟨mnX9_51, imX2_init⟩ ⟨rfl, rfl⟩ (by decide) (Nat.le_of_ble_eq_true rfl) rfl (Nat.le_of_ble_eq_true rfl) o20 (CV.mono h ?_)
    clear h
    intro S81 I81 R81 h
    have o21 := h.1
    replace h := h.2
    have o22 := h.1
    replace h := h.2
    have o23 := h.1
    replace h := h.2
    obtain ⟨R84, eR84⟩ : ∃ z : MR, z = up2 R81 (R x0 5) (Int.toNat x1) (sN S) := ⟨_, rfl⟩
    replace h := h R84 eR84
    refine e_aast (t := 26) dX9_init_84 o21 (Or.inr (Or.inr ⟨rfl, o23⟩)) o22 (eqR eR84 ?_)
    refine e_iinc (ls2 := [(1, vI (w32 (x1 + 1))), (0, vR x0)]) 1 dX9_init_85 rfl (by decide) rfl ?_
    refine e_goto (tgt := 67) dX9_init_88 (by decide) ?_
    exact e_sub (ls2 := [(0, vR x0), (1, vI (w32 (x1 + 1)))]) [1, 0] rfl h

def LX9_isPrime_16 (G : Gl) (x0 : Int) (x1 : Int) (S : Sh) (I : MI) (R : MR) (Q : Sh → MI → MR → Int → Prop) : Prop := E G MX9_isPrime 16 [(0, vI x0), (1, vI x1)] [] S I R (qI Q)
set_option maxRecDepth 100000 in
set_option maxHeartbeats 4000000 in
theorem bX9_isPrime {G : Gl} {S : Sh} {I : MI} {R : MR} {Q : Sh → MI → MR → Int → Prop} {x0 : Int} (h : ((x0 < 2 → Q S I R 0) ∧ (¬ (x0 < 2) → ((x0 ≤ 32749 → LX9_isPrime_16 G x0 2 S I R Q) ∧ (¬ (x0 ≤ 32749) → Q S I R 0))))) : CI G MX9_isPrime [vI x0] S I R Q := by
  show E G MX9_isPrime 0 [(0, vI x0)] [] S I R (qI Q)
  refine e_iload_n 0 dX9_isPrime_0 rfl ?_
  refine e_iconst dX9_isPrime_1 (by unfold InR; decide) ?_
  refine e_icmp_lt (tgt := 12) dX9_isPrime_2 (by decide) (fun c => ?_) (fun c => ?_)
  · replace h := h.1 c
    refine e_iconst dX9_isPrime_12 (by unfold InR; decide) ?_
    exact e_zreturn dX9_isPrime_13 rfl (by decide) ⟨_, rfl, h⟩
  · replace h := h.2 c
    refine e_iload_n 0 dX9_isPrime_5 rfl ?_
    refine e_sipush (x := 32749) dX9_isPrime_6 ⟨by decide +kernel, by unfold InR; decide⟩ ?_
    refine e_icmp_le (tgt := 14) dX9_isPrime_9 (by decide) (fun c => ?_) (fun c => ?_)
    · replace h := h.1 c
      refine e_iconst dX9_isPrime_14 (by unfold InR; decide) ?_
      refine e_istore_n (ls2 := [(1, vI 2), (0, vI x0)]) dX9_isPrime_15 (by decide) rfl ?_
      exact e_sub (ls2 := [(0, vI x0), (1, vI 2)]) [1, 0] rfl h
    · replace h := h.2 c
      refine e_iconst dX9_isPrime_12 (by unfold InR; decide) ?_
      exact e_zreturn dX9_isPrime_13 rfl (by decide) ⟨_, rfl, h⟩
set_option maxRecDepth 100000 in
set_option maxHeartbeats 4000000 in
theorem bX9_isPrime_16 {G : Gl} {S : Sh} {I : MI} {R : MR} {Q : Sh → MI → MR → Int → Prop} {x0 : Int} {x1 : Int} (h : ((x0 < (w32 (x1 * x1)) → Q S I R 1) ∧ (¬ (x0 < (w32 (x1 * x1))) → (x1 ≠ 0 ∧ (((irem x0 x1) ≠ 0 → LX9_isPrime_16 G x0 (w32 (x1 + 1)) S I R Q) ∧ (¬ ((irem x0 x1) ≠ 0) → Q S I R 0)))))) : LX9_isPrime_16 G x0 x1 S I R Q := by
  show E G MX9_isPrime 16 [(0, vI x0), (1, vI x1)] [] S I R (qI Q)
  refine e_iload_n 1 dX9_isPrime_16 rfl ?_
  refine e_iload_n 1 dX9_isPrime_17 rfl ?_
  refine e_imul dX9_isPrime_18 ?_
  refine e_iload_n 0 dX9_isPrime_19 rfl ?_
  refine e_icmp_gt (tgt := 37) dX9_isPrime_20 (by decide) (fun c => ?_) (fun c => ?_)
  · replace h := h.1 c
    refine e_iconst dX9_isPrime_37 (by unfold InR; decide) ?_
    exact e_zreturn dX9_isPrime_38 rfl (by decide) ⟨_, rfl, h⟩
  · replace h := h.2 c
    refine e_iload_n 0 dX9_isPrime_23 rfl ?_
    refine e_iload_n 1 dX9_isPrime_24 rfl ?_
    have o1 := h.1
    replace h := h.2
    refine e_irem dX9_isPrime_25 o1 ?_
    refine e_if_ne (tgt := 31) dX9_isPrime_26 (by decide) (fun c => ?_) (fun c => ?_)
    · replace h := h.1 c
      refine e_iinc (ls2 := [(1, vI (w32 (x1 + 1))), (0, vI x0)]) 1 dX9_isPrime_31 rfl (by decide) rfl ?_
      refine e_goto (tgt := 16) dX9_isPrime_34 (by decide) ?_
      exact e_sub (ls2 := [(0, vI x0), (1, vI (w32 (x1 + 1)))]) [1, 0] rfl h
    · replace h := h.2 c
      refine e_iconst dX9_isPrime_29 (by unfold InR; decide) ?_
      exact e_zreturn dX9_isPrime_30 rfl (by decide) ⟨_, rfl, h⟩

def LX9_forgetWhatWasWorkedOut_18 (G : Gl) (x1 : Nat) (x2 : Int) (x3 : Int) (S : Sh) (I : MI) (R : MR) (Q : Sh → MI → MR → Prop) : Prop := E G MX9_forgetWhatWasWorkedOut 18 [(1, vR x1), (2, vI x2), (3, vI x3)] [] S I R (qV Q)
set_option maxRecDepth 100000 in
set_option maxHeartbeats 4000000 in
theorem bX9_forgetWhatWasWorkedOut {G : Gl} {S : Sh} {I : MI} {R : MR} {Q : Sh → MI → MR → Prop} {x0 : Nat} (h : (sT S x0 = 9 ∧ (sT S (R x0 4) = 1 ∧ (∀ I5, I5 = up2 I (R x0 4) 0 0 → (21 ≤ sT S (R x0 5) ∧ LX9_forgetWhatWasWorkedOut_18 G (R x0 5) (sL S (R x0 5) : Int) 0 S I5 R Q))))) : CV G MX9_forgetWhatWasWorkedOut [vR x0] S I R Q := by
  show E G MX9_forgetWhatWasWorkedOut 0 [(0, vR x0)] [] S I R (qV Q)
  refine e_aload_n 0 dX9_forgetWhatWasWorkedOut_0 rfl ?_
  have o1 := h.1
  replace h := h.2
  refine e_getR dX9_forgetWhatWasWorkedOut_1 flX9_41 rfl o1 ?_
  refine e_iconst dX9_forgetWhatWasWorkedOut_4 (by unfold InR; decide) ?_
  have o2 := h.1
  replace h := h.2
  obtain ⟨I5, eI5⟩ : ∃ z : MI, z = up2 I (R x0 4) 0 0 := ⟨_, rfl⟩
  replace h := h I5 eI5
  refine e_putZ dX9_forgetWhatWasWorkedOut_5 flX9_198 rfl (Or.inl rfl) o2 (by decide) (eqI eI5 ?_)
  refine e_aload_n 0 dX9_forgetWhatWasWorkedOut_8 rfl ?_
  refine e_getR dX9_forgetWhatWasWorkedOut_9 flX9_47 rfl o1 ?_
  refine e_astore_n (ls2 := [(1, vR (R x0 5)), (0, vR x0)]) dX9_forgetWhatWasWorkedOut_12 (by decide) rfl ?_
  refine e_aload_n 0 dX9_forgetWhatWasWorkedOut_13 rfl ?_
  have o3 := h.1
  replace h := h.2
  refine e_alen dX9_forgetWhatWasWorkedOut_14 o3 ?_
  refine e_istore_n (ls2 := [(2, vI (sL S (R x0 5) : Int)), (1, vR (R x0 5)), (0, vR x0)]) dX9_forgetWhatWasWorkedOut_15 (by decide) rfl ?_
  refine e_iconst dX9_forgetWhatWasWorkedOut_16 (by unfold InR; decide) ?_
  refine e_istore_n (ls2 := [(3, vI 0), (2, vI (sL S (R x0 5) : Int)), (1, vR (R x0 5)), (0, vR x0)]) dX9_forgetWhatWasWorkedOut_17 (by decide) rfl ?_
  exact e_sub (ls2 := [(1, vR (R x0 5)), (2, vI (sL S (R x0 5) : Int)), (3, vI 0)]) [2, 1, 0] rfl h
set_option maxRecDepth 100000 in
set_option maxHeartbeats 4000000 in
theorem bX9_forgetWhatWasWorkedOut_18 {G : Gl} {S : Sh} {I : MI} {R : MR} {Q : Sh → MI → MR → Prop} {x1 : Nat} {x2 : Int} {x3 : Int} (h : ((x2 ≤ x3 → Q S I R) ∧ (¬ (x2 ≤ x3) → (sT S x1 = 26 ∧ (((0 : Int) ≤ x3 ∧ x3 < (sL S x1 : Int)) ∧ (sT S (R x1 (Int.toNat x3)) = 3 ∧ (∀ I31, I31 = up2 I (R x1 (Int.toNat x3)) 0 (-1) → LX9_forgetWhatWasWorkedOut_18 G x1 x2 (w32 (x3 + 1)) S I31 R Q))))))) : LX9_forgetWhatWasWorkedOut_18 G x1 x2 x3 S I R Q := by
  show E G MX9_forgetWhatWasWorkedOut 18 [(1, vR x1), (2, vI x2), (3, vI x3)] [] S I R (qV Q)
  refine e_iload_n 2 dX9_forgetWhatWasWorkedOut_18 rfl ?_
  refine e_iload_n 1 dX9_forgetWhatWasWorkedOut_19 rfl ?_
  refine e_icmp_ge (tgt := 40) dX9_forgetWhatWasWorkedOut_20 (by decide) (fun c => ?_) (fun c => ?_)
  · replace h := h.1 c
    exact e_return dX9_forgetWhatWasWorkedOut_40 rfl ⟨rfl, h⟩
  · replace h := h.2 c
    refine e_aload_n 0 dX9_forgetWhatWasWorkedOut_23 rfl ?_
    refine e_iload_n 2 dX9_forgetWhatWasWorkedOut_24 rfl ?_
    have o4 := h.1
    replace h := h.2
    have o5 := h.1
    replace h := h.2
    refine e_aald (t := 26) dX9_forgetWhatWasWorkedOut_25 o4 (by decide) (by decide) o5 ?_
    refine e_astore (ls2 := [(4, vR (R x1 (Int.toNat x3))), (1, vR x1), (2, vI x2), (3, vI x3)]) dX9_forgetWhatWasWorkedOut_26 (by decide) rfl ?_
    refine e_aload 0 dX9_forgetWhatWasWorkedOut_28 rfl ?_
    refine e_iconst dX9_forgetWhatWasWorkedOut_30 (by unfold InR; decide) ?_
    have o6 := h.1
    replace h := h.2
    obtain ⟨I31, eI31⟩ : ∃ z : MI, z = up2 I (R x1 (Int.toNat x3)) 0 (-1) := ⟨_, rfl⟩
    replace h := h I31 eI31
    refine e_putI dX9_forgetWhatWasWorkedOut_31 flX9_264 rfl (Or.inl rfl) o6 (eqI eI31 ?_)
    refine e_iinc (ls2 := [(3, vI (w32 (x3 + 1))), (4, vR (R x1 (Int.toNat x3))), (1, vR x1), (2, vI x2)]) 3 dX9_forgetWhatWasWorkedOut_34 rfl (by decide) rfl ?_
    refine e_goto (tgt := 18) dX9_forgetWhatWasWorkedOut_37 (by decide) ?_
    exact e_sub (ls2 := [(1, vR x1), (2, vI x2), (3, vI (w32 (x3 + 1)))]) [2, 3, 0] rfl h

def LX9_ring_64 (G : Gl) (x0 : Nat) (x3 : Nat) (x4 : Int) (x5 : Int) (S : Sh) (I : MI) (R : MR) (Q : Sh → MI → MR → Int → Prop) : Prop := E G MX9_ring 64 [(0, vR x0), (3, vR x3), (4, vI x4), (5, vI x5)] [] S I R (qI Q)
set_option maxRecDepth 100000 in
set_option maxHeartbeats 4000000 in
theorem bX9_ring {G : Gl} {S : Sh} {I : MI} {R : MR} {Q : Sh → MI → MR → Int → Prop} {x0 : Nat} {x1 : Int} {x2 : Int} (h : ((x1 < 1 → Q S I R 0) ∧ (¬ (x1 < 1) → ((3 < x1 → Q S I R 0) ∧ (¬ (3 < x1) → (CI G MX9_isPrime [vI x2] S I R (fun S11 I11 R11 x11_ => ((x11_ ≠ 0 → (sT S11 x0 = 9 ∧ (sT S11 (R11 x0 0) = 6 ∧ (∀ I24, I24 = up2 I11 (R11 x0 0) 0 x1 → (∀ S31 I31 R31, S31 = shNew S11 4 0 1 → I31 = mNew I24 (sN S11) 0 → R31 = mNew R11 (sN S11) 0 → (sT S31 (sN S11) ≠ 0 ∧ (CV G MX4_init [vR (sN S11), vI x2] S31 I31 R31 (fun S36 I36 R36 => (sT S36 (R11 x0 0) = 6 ∧ (∀ R39, R39 = up2 R36 (R11 x0 0) 1 (sN S11) → (sT S36 x0 = 9 ∧ (sT S36 (R39 x0 0) = 6 ∧ (CV G MX6_weigh [vR (R39 x0 0), vI 1, vI 1, vI 1] S36 I36 R39 (fun S49 I49 R49 => (sT S49 x0 = 9 ∧ (21 ≤ sT S49 (R49 x0 1) ∧ LX9_ring_64 G x0 (R49 x0 1) (sL S49 (R49 x0 1) : Int) 0 S49 I49 R49 Q)))))))))))))))) ∧ (¬ (x11_ ≠ 0) → Q S11 I11 R11 0))))))))) : CI G MX9_ring [vR x0, vI x1, vI x2] S I R Q := by
  show E G MX9_ring 0 [(0, vR x0), (1, vI x1), (2, vI x2)] [] S I R (qI Q)
  refine e_iload_n 1 dX9_ring_0 rfl ?_
  refine e_iconst dX9_ring_1 (by unfold InR; decide) ?_
  refine e_icmp_lt (tgt := 17) dX9_ring_2 (by decide) (fun c => ?_) (fun c => ?_)
  · replace h := h.1 c
    refine e_iconst dX9_ring_17 (by unfold InR; decide) ?_
    exact e_zreturn dX9_ring_18 rfl (by decide) ⟨_, rfl, h⟩
  · replace h := h.2 c
    refine e_iload_n 1 dX9_ring_5 rfl ?_
    refine e_iconst dX9_ring_6 (by unfold InR; decide) ?_
    refine e_icmp_gt (tgt := 17) dX9_ring_7 (by decide) (fun c => ?_) (fun c => ?_)
    · replace h := h.1 c
      refine e_iconst dX9_ring_17 (by unfold InR; decide) ?_
      exact e_zreturn dX9_ring_18 rfl (by decide) ⟨_, rfl, h⟩
    · replace h := h.2 c
      refine e_iload_n 2 dX9_ring_10 rfl ?_
      refine i_SI (μ' := MX9_isPrime) (as := [vI x2]) (st := []) rfl dX9_ring_11 mOKX9_isPrime ⟨mlX9_70, stX9_isPrime⟩ (by decide) (Nat.le_of_ble_eq_true rfl) rfl (Nat.le_of_ble_eq_true rfl) (CI.mono h ?_)
      clear h
      intro S11 I11 R11 x11_ h
      refine e_if_ne (tgt := 19) dX9_ring_14 (by decide) (fun c => ?_) (fun c => ?_)
      · replace h := h.1 c
        refine e_aload_n 0 dX9_ring_19 rfl ?_
        have o1 := h.1
        replace h := h.2
        refine e_getR dX9_ring_20 flX9_12 rfl o1 ?_
        refine e_iload_n 1 dX9_ring_23 rfl ?_
        have o2 := h.1
        replace h := h.2
        obtain ⟨I24, eI24⟩ : ∃ z : MI, z = up2 I11 (R11 x0 0) 0 x1 := ⟨_, rfl⟩
        replace h := h I24 eI24
        refine e_putI dX9_ring_24 flX9_74 rfl (Or.inl rfl) o2 (eqI eI24 ?_)
        refine e_aload_n 0 dX9_ring_27 rfl ?_
        refine e_getR dX9_ring_28 flX9_12 rfl o1 ?_
        obtain ⟨S31, eS31⟩ : ∃ z : Sh, z = shNew S11 4 0 1 := ⟨_, rfl⟩
        obtain ⟨I31, eI31⟩ : ∃ z : MI, z = mNew I24 (sN S11) 0 := ⟨_, rfl⟩
        obtain ⟨R31, eR31⟩ : ∃ z : MR, z = mNew R11 (sN S11) 0 := ⟨_, rfl⟩
        replace h := h S31 I31 R31 eS31 eI31 eR31
        refine e_new (ci := 3) dX9_ring_31 (by decide) ⟨clX9_78, is3, ii3⟩ (eqS eS31 (eqI eI31 (eqR eR31 ?_)))
        refine e_dup dX9_ring_34 rfl ?_
        refine e_iload_n 2 dX9_ring_35 rfl ?_
        have o3 := h.1
        replace h := h.2
        refine i_IV (μ' := MX4_init) (r := (sN S11)) (as := [vI x2]) (st := [vR (sN S11), vR (R11 x0 0)]) rfl dX9_ring_36 mOKX4_init ⟨mlX9_80, imX4_init⟩ ⟨rfl, rfl⟩ (by decide) (Nat.le_of_ble_eq_true rfl) rfl (Nat.le_of_ble_eq_true rfl) o3 (CV.mono h ?_)
        clear h
        intro S36 I36 R36 h
        have o4 := h.1
        replace h := h.2
        obtain ⟨R39, eR39⟩ : ∃ z : MR, z = up2 R36 (R11 x0 0) 1 (sN S11) := ⟨_, rfl⟩
        replace h := h R39 eR39
        refine e_putR dX9_ring_39 flX9_81 rfl (Or.inl rfl) o4 (eqR eR39 ?_)
        refine e_aload_n 0 dX9_ring_42 rfl ?_
        have o5 := h.1
        replace h := h.2
        refine e_getR dX9_ring_43 flX9_12 rfl o5 ?_
        refine e_iconst dX9_ring_46 (by unfold InR; decide) ?_
        refine e_iconst dX9_ring_47 (by unfold InR; decide) ?_
        refine e_iconst dX9_ring_48 (by unfold InR; decide) ?_
        have o6 := h.1
        replace h := h.2
        refine i_VV (μ' := MX6_weigh) (ci := 5) (r := (R39 x0 0)) (as := [vI 1, vI 1, vI 1]) (st := []) rfl dX9_ring_49 mOKX6_weigh ⟨mlX9_85, imX6_weigh, seX6_weigh⟩ (by decide) (Nat.le_of_ble_eq_true rfl) rfl (Nat.le_of_ble_eq_true rfl) ⟨by decide, rfl⟩ o6 (CV.mono h ?_)
        clear h
        intro S49 I49 R49 h
        refine e_aload_n 0 dX9_ring_52 rfl ?_
        have o7 := h.1
        replace h := h.2
        refine e_getR dX9_ring_53 flX9_20 rfl o7 ?_
        refine e_astore_n (ls2 := [(3, vR (R49 x0 1)), (0, vR x0), (1, vI x1), (2, vI x2)]) dX9_ring_56 (by decide) rfl ?_
        refine e_aload_n 0 dX9_ring_57 rfl ?_
        have o8 := h.1
        replace h := h.2
        refine e_alen dX9_ring_58 o8 ?_
        refine e_istore (ls2 := [(4, vI (sL S49 (R49 x0 1) : Int)), (3, vR (R49 x0 1)), (0, vR x0), (1, vI x1), (2, vI x2)]) dX9_ring_59 (by decide) rfl ?_
        refine e_iconst dX9_ring_61 (by unfold InR; decide) ?_
        refine e_istore (ls2 := [(5, vI 0), (4, vI (sL S49 (R49 x0 1) : Int)), (3, vR (R49 x0 1)), (0, vR x0), (1, vI x1), (2, vI x2)]) dX9_ring_62 (by decide) rfl ?_
        exact e_sub (ls2 := [(0, vR x0), (3, vR (R49 x0 1)), (4, vI (sL S49 (R49 x0 1) : Int)), (5, vI 0)]) [3, 2, 1, 0] rfl h
      · replace h := h.2 c
        refine e_iconst dX9_ring_17 (by unfold InR; decide) ?_
        exact e_zreturn dX9_ring_18 rfl (by decide) ⟨_, rfl, h⟩
set_option maxRecDepth 100000 in
set_option maxHeartbeats 4000000 in
theorem bX9_ring_64 {G : Gl} {S : Sh} {I : MI} {R : MR} {Q : Sh → MI → MR → Int → Prop} {x0 : Nat} {x3 : Nat} {x4 : Int} {x5 : Int} (h : ((x4 ≤ x5 → (sT S x0 = 9 ∧ (CV G MX9_forgetWhatWasWorkedOut [vR x0] S I R (fun S89 I89 R89 => Q S89 I89 R89 1)))) ∧ (¬ (x4 ≤ x5) → (sT S x3 = 24 ∧ (((0 : Int) ≤ x5 ∧ x5 < (sL S x3 : Int)) ∧ (sT S (R x3 (Int.toNat x5)) = 5 ∧ (CV G MX5_clear [vR (R x3 (Int.toNat x5))] S I R (fun S79 I79 R79 => LX9_ring_64 G x0 x3 x4 (w32 (x5 + 1)) S79 I79 R79 Q)))))))) : LX9_ring_64 G x0 x3 x4 x5 S I R Q := by
  show E G MX9_ring 64 [(0, vR x0), (3, vR x3), (4, vI x4), (5, vI x5)] [] S I R (qI Q)
  refine e_iload 3 dX9_ring_64 rfl ?_
  refine e_iload 2 dX9_ring_66 rfl ?_
  refine e_icmp_ge (tgt := 88) dX9_ring_68 (by decide) (fun c => ?_) (fun c => ?_)
  · replace h := h.1 c
    refine e_aload_n 0 dX9_ring_88 rfl ?_
    have o9 := h.1
    replace h := h.2
    refine i_VV (μ' := MX9_forgetWhatWasWorkedOut) (ci := 8) (r := x0) (as := []) (st := []) rfl dX9_ring_89 mOKX9_forgetWhatWasWorkedOut ⟨mlX9_92, imX9_forgetWhatWasWorkedOut, seX9_forgetWhatWasWorkedOut⟩ (by decide) (Nat.le_of_ble_eq_true rfl) rfl (Nat.le_of_ble_eq_true rfl) ⟨by decide, rfl⟩ o9 (CV.mono h ?_)
    clear h
    intro S89 I89 R89 h
    refine e_iconst dX9_ring_92 (by unfold InR; decide) ?_
    exact e_zreturn dX9_ring_93 rfl (by decide) ⟨_, rfl, h⟩
  · replace h := h.2 c
    refine e_aload_n 1 dX9_ring_71 rfl ?_
    refine e_iload 3 dX9_ring_72 rfl ?_
    have o10 := h.1
    replace h := h.2
    have o11 := h.1
    replace h := h.2
    refine e_aald (t := 24) dX9_ring_74 o10 (by decide) (by decide) o11 ?_
    refine e_astore (ls2 := [(6, vR (R x3 (Int.toNat x5))), (0, vR x0), (3, vR x3), (4, vI x4), (5, vI x5)]) dX9_ring_75 (by decide) rfl ?_
    refine e_aload 0 dX9_ring_77 rfl ?_
    have o12 := h.1
    replace h := h.2
    refine i_VV (μ' := MX5_clear) (ci := 4) (r := (R x3 (Int.toNat x5))) (as := []) (st := []) rfl dX9_ring_79 mOKX5_clear ⟨mlX9_89, imX5_clear, seX5_clear⟩ (by decide) (Nat.le_of_ble_eq_true rfl) rfl (Nat.le_of_ble_eq_true rfl) ⟨by decide, rfl⟩ o12 (CV.mono h ?_)
    clear h
    intro S79 I79 R79 h
    refine e_iinc (ls2 := [(5, vI (w32 (x5 + 1))), (6, vR (R x3 (Int.toNat x5))), (0, vR x0), (3, vR x3), (4, vI x4)]) 4 dX9_ring_82 rfl (by decide) rfl ?_
    refine e_goto (tgt := 64) dX9_ring_85 (by decide) ?_
    exact e_sub (ls2 := [(0, vR x0), (3, vR x3), (4, vI x4), (5, vI (w32 (x5 + 1)))]) [2, 3, 4, 0] rfl h

def vX9_isWeight  (x0 : Int) : Int := (if x0 < 1 then 0 else (if 4 < x0 then 0 else 1))
set_option maxRecDepth 100000 in
set_option maxHeartbeats 4000000 in
theorem sX9_isWeight {G : Gl} {S : Sh} {I : MI} {R : MR} {Q : Sh → MI → MR → Int → Prop} {x0 : Int} (hq : Q S I R (vX9_isWeight x0)) : CI G MX9_isWeight [vI x0] S I R Q := by
  show E G MX9_isWeight 0 [(0, vI x0)] [] S I R (qI Q)
  unfold vX9_isWeight at hq
  refine e_iload_n 0 dX9_isWeight_0 rfl ?_
  refine e_iconst dX9_isWeight_1 (by unfold InR; decide) ?_
  refine e_icmp_lt (tgt := 14) dX9_isWeight_2 (by decide) (fun c => ?_) (fun c => ?_)
  · rw [if_pos c] at hq
    refine e_iconst dX9_isWeight_14 (by unfold InR; decide) ?_
    exact e_zreturn dX9_isWeight_15 rfl (by decide) ⟨_, rfl, hq⟩
  · rw [if_neg c] at hq
    refine e_iload_n 0 dX9_isWeight_5 rfl ?_
    refine e_iconst dX9_isWeight_6 (by unfold InR; decide) ?_
    refine e_icmp_gt (tgt := 14) dX9_isWeight_7 (by decide) (fun c => ?_) (fun c => ?_)
    · rw [if_pos c] at hq
      refine e_iconst dX9_isWeight_14 (by unfold InR; decide) ?_
      exact e_zreturn dX9_isWeight_15 rfl (by decide) ⟨_, rfl, hq⟩
    · rw [if_neg c] at hq
      refine e_iconst dX9_isWeight_10 (by unfold InR; decide) ?_
      refine e_goto (tgt := 15) dX9_isWeight_11 (by decide) ?_
      exact e_zreturn dX9_isWeight_15 rfl (by decide) ⟨_, rfl, hq⟩

def LX9_weights_47 (G : Gl) (x0 : Nat) (x4 : Nat) (x5 : Int) (x6 : Int) (S : Sh) (I : MI) (R : MR) (Q : Sh → MI → MR → Int → Prop) : Prop := E G MX9_weights 47 [(0, vR x0), (4, vR x4), (5, vI x5), (6, vI x6)] [] S I R (qI Q)
set_option maxRecDepth 100000 in
set_option maxHeartbeats 4000000 in
theorem bX9_weights {G : Gl} {S : Sh} {I : MI} {R : MR} {Q : Sh → MI → MR → Int → Prop} {x0 : Nat} {x1 : Int} {x2 : Int} {x3 : Int} (h : (((vX9_isWeight x1) = 0 → Q S I R 0) ∧ (¬ ((vX9_isWeight x1) = 0) → (((vX9_isWeight x2) = 0 → Q S I R 0) ∧ (¬ ((vX9_isWeight x2) = 0) → (((vX9_isWeight x3) ≠ 0 → (sT S x0 = 9 ∧ (sT S (R x0 0) = 6 ∧ (CV G MX6_weigh [vR (R x0 0), vI x1, vI x2, vI x3] S I R (fun S30 I30 R30 => (sT S30 x0 = 9 ∧ (21 ≤ sT S30 (R30 x0 1) ∧ LX9_weights_47 G x0 (R30 x0 1) (sL S30 (R30 x0 1) : Int) 0 S30 I30 R30 Q))))))) ∧ (¬ ((vX9_isWeight x3) ≠ 0) → Q S I R 0))))))) : CI G MX9_weights [vR x0, vI x1, vI x2, vI x3] S I R Q := by
  show E G MX9_weights 0 [(0, vR x0), (1, vI x1), (2, vI x2), (3, vI x3)] [] S I R (qI Q)
  refine e_iload_n 1 dX9_weights_0 rfl ?_
  refine i_SI (μ' := MX9_isWeight) (as := [vI x1]) (st := []) rfl dX9_weights_1 mOKX9_isWeight ⟨mlX9_95, stX9_isWeight⟩ (by decide) (Nat.le_of_ble_eq_true rfl) rfl (Nat.le_of_ble_eq_true rfl) (sX9_isWeight ?_)
  refine e_if_eq (tgt := 21) dX9_weights_4 (by decide) (fun c => ?_) (fun c => ?_)
  · replace h := h.1 c
    refine e_iconst dX9_weights_21 (by unfold InR; decide) ?_
    exact e_zreturn dX9_weights_22 rfl (by decide) ⟨_, rfl, h⟩
  · replace h := h.2 c
    refine e_iload_n 2 dX9_weights_7 rfl ?_
    refine i_SI (μ' := MX9_isWeight) (as := [vI x2]) (st := []) rfl dX9_weights_8 mOKX9_isWeight ⟨mlX9_95, stX9_isWeight⟩ (by decide) (Nat.le_of_ble_eq_true rfl) rfl (Nat.le_of_ble_eq_true rfl) (sX9_isWeight ?_)
    refine e_if_eq (tgt := 21) dX9_weights_11 (by decide) (fun c => ?_) (fun c => ?_)
    · replace h := h.1 c
      refine e_iconst dX9_weights_21 (by unfold InR; decide) ?_
      exact e_zreturn dX9_weights_22 rfl (by decide) ⟨_, rfl, h⟩
    · replace h := h.2 c
      refine e_iload_n 3 dX9_weights_14 rfl ?_
      refine i_SI (μ' := MX9_isWeight) (as := [vI x3]) (st := []) rfl dX9_weights_15 mOKX9_isWeight ⟨mlX9_95, stX9_isWeight⟩ (by decide) (Nat.le_of_ble_eq_true rfl) rfl (Nat.le_of_ble_eq_true rfl) (sX9_isWeight ?_)
      refine e_if_ne (tgt := 23) dX9_weights_18 (by decide) (fun c => ?_) (fun c => ?_)
      · replace h := h.1 c
        refine e_aload_n 0 dX9_weights_23 rfl ?_
        have o1 := h.1
        replace h := h.2
        refine e_getR dX9_weights_24 flX9_12 rfl o1 ?_
        refine e_iload_n 1 dX9_weights_27 rfl ?_
        refine e_iload_n 2 dX9_weights_28 rfl ?_
        refine e_iload_n 3 dX9_weights_29 rfl ?_
        have o2 := h.1
        replace h := h.2
        refine i_VV (μ' := MX6_weigh) (ci := 5) (r := (R x0 0)) (as := [vI x1, vI x2, vI x3]) (st := []) rfl dX9_weights_30 mOKX6_weigh ⟨mlX9_85, imX6_weigh, seX6_weigh⟩ (by decide) (Nat.le_of_ble_eq_true rfl) rfl (Nat.le_of_ble_eq_true rfl) ⟨by decide, rfl⟩ o2 (CV.mono h ?_)
        clear h
        intro S30 I30 R30 h
        refine e_aload_n 0 dX9_weights_33 rfl ?_
        have o3 := h.1
        replace h := h.2
        refine e_getR dX9_weights_34 flX9_20 rfl o3 ?_
        refine e_astore (ls2 := [(4, vR (R30 x0 1)), (0, vR x0), (1, vI x1), (2, vI x2), (3, vI x3)]) dX9_weights_37 (by decide) rfl ?_
        refine e_aload 0 dX9_weights_39 rfl ?_
        have o4 := h.1
        replace h := h.2
        refine e_alen dX9_weights_41 o4 ?_
        refine e_istore (ls2 := [(5, vI (sL S30 (R30 x0 1) : Int)), (4, vR (R30 x0 1)), (0, vR x0), (1, vI x1), (2, vI x2), (3, vI x3)]) dX9_weights_42 (by decide) rfl ?_
        refine e_iconst dX9_weights_44 (by unfold InR; decide) ?_
        refine e_istore (ls2 := [(6, vI 0), (5, vI (sL S30 (R30 x0 1) : Int)), (4, vR (R30 x0 1)), (0, vR x0), (1, vI x1), (2, vI x2), (3, vI x3)]) dX9_weights_45 (by decide) rfl ?_
        exact e_sub (ls2 := [(0, vR x0), (4, vR (R30 x0 1)), (5, vI (sL S30 (R30 x0 1) : Int)), (6, vI 0)]) [3, 2, 1, 0] rfl h
      · replace h := h.2 c
        refine e_iconst dX9_weights_21 (by unfold InR; decide) ?_
        exact e_zreturn dX9_weights_22 rfl (by decide) ⟨_, rfl, h⟩
set_option maxRecDepth 100000 in
set_option maxHeartbeats 4000000 in
theorem bX9_weights_47 {G : Gl} {S : Sh} {I : MI} {R : MR} {Q : Sh → MI → MR → Int → Prop} {x0 : Nat} {x4 : Nat} {x5 : Int} {x6 : Int} (h : ((x5 ≤ x6 → (sT S x0 = 9 ∧ (CV G MX9_forgetWhatWasWorkedOut [vR x0] S I R (fun S77 I77 R77 => Q S77 I77 R77 1)))) ∧ (¬ (x5 ≤ x6) → (sT S x4 = 24 ∧ (((0 : Int) ≤ x6 ∧ x6 < (sL S x4 : Int)) ∧ (sT S x0 = 9 ∧ (sT S (R x4 (Int.toNat x6)) = 5 ∧ (CV G MX5_reorder [vR (R x4 (Int.toNat x6)), vR (R x0 0)] S I R (fun S67 I67 R67 => LX9_weights_47 G x0 x4 x5 (w32 (x6 + 1)) S67 I67 R67 Q))))))))) : LX9_weights_47 G x0 x4 x5 x6 S I R Q := by
  show E G MX9_weights 47 [(0, vR x0), (4, vR x4), (5, vI x5), (6, vI x6)] [] S I R (qI Q)
  refine e_iload 3 dX9_weights_47 rfl ?_
  refine e_iload 2 dX9_weights_49 rfl ?_
  refine e_icmp_ge (tgt := 76) dX9_weights_51 (by decide) (fun c => ?_) (fun c => ?_)
  · replace h := h.1 c
    refine e_aload_n 0 dX9_weights_76 rfl ?_
    have o5 := h.1
    replace h := h.2
    refine i_VV (μ' := MX9_forgetWhatWasWorkedOut) (ci := 8) (r := x0) (as := []) (st := []) rfl dX9_weights_77 mOKX9_forgetWhatWasWorkedOut ⟨mlX9_92, imX9_forgetWhatWasWorkedOut, seX9_forgetWhatWasWorkedOut⟩ (by decide) (Nat.le_of_ble_eq_true rfl) rfl (Nat.le_of_ble_eq_true rfl) ⟨by decide, rfl⟩ o5 (CV.mono h ?_)
    clear h
    intro S77 I77 R77 h
    refine e_iconst dX9_weights_80 (by unfold InR; decide) ?_
    exact e_zreturn dX9_weights_81 rfl (by decide) ⟨_, rfl, h⟩
  · replace h := h.2 c
    refine e_aload 1 dX9_weights_54 rfl ?_
    refine e_iload 3 dX9_weights_56 rfl ?_
    have o6 := h.1
    replace h := h.2
    have o7 := h.1
    replace h := h.2
    refine e_aald (t := 24) dX9_weights_58 o6 (by decide) (by decide) o7 ?_
    refine e_astore (ls2 := [(7, vR (R x4 (Int.toNat x6))), (0, vR x0), (4, vR x4), (5, vI x5), (6, vI x6)]) dX9_weights_59 (by decide) rfl ?_
    refine e_aload 0 dX9_weights_61 rfl ?_
    refine e_aload_n 1 dX9_weights_63 rfl ?_
    have o8 := h.1
    replace h := h.2
    refine e_getR dX9_weights_64 flX9_12 rfl o8 ?_
    have o9 := h.1
    replace h := h.2
    refine i_VV (μ' := MX5_reorder) (ci := 4) (r := (R x4 (Int.toNat x6))) (as := [vR (R x0 0)]) (st := []) rfl dX9_weights_67 mOKX5_reorder ⟨mlX9_98, imX5_reorder, seX5_reorder⟩ (by decide) (Nat.le_of_ble_eq_true rfl) rfl (Nat.le_of_ble_eq_true rfl) ⟨by decide, rfl⟩ o9 (CV.mono h ?_)
    clear h
    intro S67 I67 R67 h
    refine e_iinc (ls2 := [(6, vI (w32 (x6 + 1))), (7, vR (R x4 (Int.toNat x6))), (0, vR x0), (4, vR x4), (5, vI x5)]) 4 dX9_weights_70 rfl (by decide) rfl ?_
    refine e_goto (tgt := 47) dX9_weights_73 (by decide) ?_
    exact e_sub (ls2 := [(0, vR x0), (4, vR x4), (5, vI x5), (6, vI (w32 (x6 + 1)))]) [2, 3, 4, 0] rfl h

set_option maxRecDepth 100000 in
set_option maxHeartbeats 4000000 in
theorem bX9_feed {G : Gl} {S : Sh} {I : MI} {R : MR} {Q : Sh → MI → MR → Int → Prop} {x0 : Nat} {x1 : Int} {x2 : Int} {x3 : Int} {x4 : Int} {x5 : Int} (h : (sT S x0 = 9 ∧ (sT S (R x0 2) = 7 ∧ (((w32 ((I (R x0 2) 1) + 20)) ≤ 200 → (CV G MX7_take [vR (R x0 2), vI x1] S I R (fun S23 I23 R23 => (sT S23 x0 = 9 ∧ (sT S23 (R23 x0 2) = 7 ∧ (CV G MX7_take [vR (R23 x0 2), vI x2] S23 I23 R23 (fun S31 I31 R31 => (sT S31 x0 = 9 ∧ (sT S31 (R31 x0 2) = 7 ∧ (CV G MX7_take [vR (R31 x0 2), vI x3] S31 I31 R31 (fun S39 I39 R39 => (sT S39 x0 = 9 ∧ (sT S39 (R39 x0 2) = 7 ∧ (CV G MX7_take [vR (R39 x0 2), vI x4] S39 I39 R39 (fun S48 I48 R48 => (sT S48 x0 = 9 ∧ (sT S48 (R48 x0 2) = 7 ∧ (CV G MX7_take [vR (R48 x0 2), vI x5] S48 I48 R48 (fun S57 I57 R57 => (sT S57 x0 = 9 ∧ (sT S57 (R57 x0 2) = 7 ∧ Q S57 I57 R57 (I57 (R57 x0 2) 1)))))))))))))))))))))) ∧ (¬ ((w32 ((I (R x0 2) 1) + 20)) ≤ 200) → Q S I R (-1)))))) : CI G MX9_feed [vR x0, vI x1, vI x2, vI x3, vI x4, vI x5] S I R Q := by
  show E G MX9_feed 0 [(0, vR x0), (1, vI x1), (2, vI x2), (3, vI x3), (4, vI x4), (5, vI x5)] [] S I R (qI Q)
  refine e_aload_n 0 dX9_feed_0 rfl ?_
  have o1 := h.1
  replace h := h.2
  refine e_getR dX9_feed_1 flX9_27 rfl o1 ?_
  have o2 := h.1
  replace h := h.2
  refine e_getI dX9_feed_4 flX9_102 rfl o2 ?_
  refine e_bipush (x := 20) dX9_feed_7 ⟨by decide +kernel, by unfold InR; decide⟩ ?_
  refine e_iadd dX9_feed_9 ?_
  refine e_sipush (x := 200) dX9_feed_10 ⟨by decide +kernel, by unfold InR; decide⟩ ?_
  refine e_icmp_le (tgt := 18) dX9_feed_13 (by decide) (fun c => ?_) (fun c => ?_)
  · replace h := h.1 c
    refine e_aload_n 0 dX9_feed_18 rfl ?_
    refine e_getR dX9_feed_19 flX9_27 rfl o1 ?_
    refine e_iload_n 1 dX9_feed_22 rfl ?_
    refine i_VV (μ' := MX7_take) (ci := 6) (r := (R x0 2)) (as := [vI x1]) (st := []) rfl dX9_feed_23 mOKX7_take ⟨mlX9_105, imX7_take, seX7_take⟩ (by decide) (Nat.le_of_ble_eq_true rfl) rfl (Nat.le_of_ble_eq_true rfl) ⟨by decide, rfl⟩ o2 (CV.mono h ?_)
    clear h
    intro S23 I23 R23 h
    refine e_aload_n 0 dX9_feed_26 rfl ?_
    have o3 := h.1
    replace h := h.2
    refine e_getR dX9_feed_27 flX9_27 rfl o3 ?_
    refine e_iload_n 2 dX9_feed_30 rfl ?_
    have o4 := h.1
    replace h := h.2
    refine i_VV (μ' := MX7_take) (ci := 6) (r := (R23 x0 2)) (as := [vI x2]) (st := []) rfl dX9_feed_31 mOKX7_take ⟨mlX9_105, imX7_take, seX7_take⟩ (by decide) (Nat.le_of_ble_eq_true rfl) rfl (Nat.le_of_ble_eq_true rfl) ⟨by decide, rfl⟩ o4 (CV.mono h ?_)
    clear h
    intro S31 I31 R31 h
    refine e_aload_n 0 dX9_feed_34 rfl ?_
    have o5 := h.1
    replace h := h.2
    refine e_getR dX9_feed_35 flX9_27 rfl o5 ?_
    refine e_iload_n 3 dX9_feed_38 rfl ?_
    have o6 := h.1
    replace h := h.2
    refine i_VV (μ' := MX7_take) (ci := 6) (r := (R31 x0 2)) (as := [vI x3]) (st := []) rfl dX9_feed_39 mOKX7_take ⟨mlX9_105, imX7_take, seX7_take⟩ (by decide) (Nat.le_of_ble_eq_true rfl) rfl (Nat.le_of_ble_eq_true rfl) ⟨by decide, rfl⟩ o6 (CV.mono h ?_)
    clear h
    intro S39 I39 R39 h
    refine e_aload_n 0 dX9_feed_42 rfl ?_
    have o7 := h.1
    replace h := h.2
    refine e_getR dX9_feed_43 flX9_27 rfl o7 ?_
    refine e_iload 4 dX9_feed_46 rfl ?_
    have o8 := h.1
    replace h := h.2
    refine i_VV (μ' := MX7_take) (ci := 6) (r := (R39 x0 2)) (as := [vI x4]) (st := []) rfl dX9_feed_48 mOKX7_take ⟨mlX9_105, imX7_take, seX7_take⟩ (by decide) (Nat.le_of_ble_eq_true rfl) rfl (Nat.le_of_ble_eq_true rfl) ⟨by decide, rfl⟩ o8 (CV.mono h ?_)
    clear h
    intro S48 I48 R48 h
    refine e_aload_n 0 dX9_feed_51 rfl ?_
    have o9 := h.1
    replace h := h.2
    refine e_getR dX9_feed_52 flX9_27 rfl o9 ?_
    refine e_iload 5 dX9_feed_55 rfl ?_
    have o10 := h.1
    replace h := h.2
    refine i_VV (μ' := MX7_take) (ci := 6) (r := (R48 x0 2)) (as := [vI x5]) (st := []) rfl dX9_feed_57 mOKX7_take ⟨mlX9_105, imX7_take, seX7_take⟩ (by decide) (Nat.le_of_ble_eq_true rfl) rfl (Nat.le_of_ble_eq_true rfl) ⟨by decide, rfl⟩ o10 (CV.mono h ?_)
    clear h
    intro S57 I57 R57 h
    refine e_aload_n 0 dX9_feed_60 rfl ?_
    have o11 := h.1
    replace h := h.2
    refine e_getR dX9_feed_61 flX9_27 rfl o11 ?_
    have o12 := h.1
    replace h := h.2
    refine e_getI dX9_feed_64 flX9_102 rfl o12 ?_
    exact e_ireturn dX9_feed_67 rfl ⟨_, rfl, h⟩
  · replace h := h.2 c
    refine e_iconst dX9_feed_16 (by unfold InR; decide) ?_
    exact e_ireturn dX9_feed_17 rfl ⟨_, rfl, h⟩

set_option maxRecDepth 100000 in
set_option maxHeartbeats 4000000 in
theorem bX9_end {G : Gl} {S : Sh} {I : MI} {R : MR} {Q : Sh → MI → MR → Int → Prop} {x0 : Nat} {x1 : Int} (h : ((x1 < 0 → Q S I R 0) ∧ (¬ (x1 < 0) → (sT S x0 = 9 ∧ (sT S (R x0 2) = 7 ∧ ((x1 ≤ (I (R x0 2) 1) → (∀ I22, I22 = up2 I (R x0 2) 1 x1 → Q S I22 R 1)) ∧ (¬ (x1 ≤ (I (R x0 2) 1)) → Q S I R 0))))))) : CI G MX9_end [vR x0, vI x1] S I R Q := by
  show E G MX9_end 0 [(0, vR x0), (1, vI x1)] [] S I R (qI Q)
  refine e_iload_n 1 dX9_end_0 rfl ?_
  refine e_if_lt (tgt := 15) dX9_end_1 (by decide) (fun c => ?_) (fun c => ?_)
  · replace h := h.1 c
    refine e_iconst dX9_end_15 (by unfold InR; decide) ?_
    exact e_zreturn dX9_end_16 rfl (by decide) ⟨_, rfl, h⟩
  · replace h := h.2 c
    refine e_iload_n 1 dX9_end_4 rfl ?_
    refine e_aload_n 0 dX9_end_5 rfl ?_
    have o1 := h.1
    replace h := h.2
    refine e_getR dX9_end_6 flX9_27 rfl o1 ?_
    have o2 := h.1
    replace h := h.2
    refine e_getI dX9_end_9 flX9_102 rfl o2 ?_
    refine e_icmp_le (tgt := 17) dX9_end_12 (by decide) (fun c => ?_) (fun c => ?_)
    · replace h := h.1 c
      refine e_aload_n 0 dX9_end_17 rfl ?_
      refine e_getR dX9_end_18 flX9_27 rfl o1 ?_
      refine e_iload_n 1 dX9_end_21 rfl ?_
      obtain ⟨I22, eI22⟩ : ∃ z : MI, z = up2 I (R x0 2) 1 x1 := ⟨_, rfl⟩
      replace h := h I22 eI22
      refine e_putI dX9_end_22 flX9_102 rfl (Or.inl rfl) o2 (eqI eI22 ?_)
      refine e_iconst dX9_end_25 (by unfold InR; decide) ?_
      exact e_zreturn dX9_end_26 rfl (by decide) ⟨_, rfl, h⟩
    · replace h := h.2 c
      refine e_iconst dX9_end_15 (by unfold InR; decide) ?_
      exact e_zreturn dX9_end_16 rfl (by decide) ⟨_, rfl, h⟩

def vX9_isSlot  (x0 : Int) : Int := (if x0 < 0 then 0 else (if 8 ≤ x0 then 0 else 1))
set_option maxRecDepth 100000 in
set_option maxHeartbeats 4000000 in
theorem sX9_isSlot {G : Gl} {S : Sh} {I : MI} {R : MR} {Q : Sh → MI → MR → Int → Prop} {x0 : Int} (hq : Q S I R (vX9_isSlot x0)) : CI G MX9_isSlot [vI x0] S I R Q := by
  show E G MX9_isSlot 0 [(0, vI x0)] [] S I R (qI Q)
  unfold vX9_isSlot at hq
  refine e_iload_n 0 dX9_isSlot_0 rfl ?_
  refine e_if_lt (tgt := 14) dX9_isSlot_1 (by decide) (fun c => ?_) (fun c => ?_)
  · rw [if_pos c] at hq
    refine e_iconst dX9_isSlot_14 (by unfold InR; decide) ?_
    exact e_zreturn dX9_isSlot_15 rfl (by decide) ⟨_, rfl, hq⟩
  · rw [if_neg c] at hq
    refine e_iload_n 0 dX9_isSlot_4 rfl ?_
    refine e_bipush (x := 8) dX9_isSlot_5 ⟨by decide +kernel, by unfold InR; decide⟩ ?_
    refine e_icmp_ge (tgt := 14) dX9_isSlot_7 (by decide) (fun c => ?_) (fun c => ?_)
    · rw [if_pos c] at hq
      refine e_iconst dX9_isSlot_14 (by unfold InR; decide) ?_
      exact e_zreturn dX9_isSlot_15 rfl (by decide) ⟨_, rfl, hq⟩
    · rw [if_neg c] at hq
      refine e_iconst dX9_isSlot_10 (by unfold InR; decide) ?_
      refine e_goto (tgt := 15) dX9_isSlot_11 (by decide) ?_
      exact e_zreturn dX9_isSlot_15 rfl (by decide) ⟨_, rfl, hq⟩

def LX9_putSpare_34 (G : Gl) (x0 : Nat) (x1 : Int) (x3 : Nat) (x4 : Int) (x5 : Int) (S : Sh) (I : MI) (R : MR) (Q : Sh → MI → MR → Int → Prop) : Prop := E G MX9_putSpare 34 [(0, vR x0), (1, vI x1), (3, vR x3), (4, vI x4), (5, vI x5)] [] S I R (qI Q)
set_option maxRecDepth 100000 in
set_option maxHeartbeats 4000000 in
theorem bX9_putSpare {G : Gl} {S : Sh} {I : MI} {R : MR} {Q : Sh → MI → MR → Int → Prop} {x0 : Nat} {x1 : Int} (h : (sT S x0 = 9 ∧ (sT S (R x0 1) = 24 ∧ (((0 : Int) ≤ x1 ∧ x1 < (sL S (R x0 1) : Int)) ∧ (sT S (R x0 8) = 5 ∧ (∀ R16, R16 = up2 R (R x0 1) (Int.toNat x1) (R x0 8) → (∀ R19, R19 = up2 R16 x0 8 (R (R x0 1) (Int.toNat x1)) → (21 ≤ sT S (R19 x0 5) ∧ LX9_putSpare_34 G x0 x1 (R19 x0 5) (sL S (R19 x0 5) : Int) 0 S I R19 Q)))))))) : CI G MX9_putSpare [vR x0, vI x1] S I R Q := by
  show E G MX9_putSpare 0 [(0, vR x0), (1, vI x1)] [] S I R (qI Q)
  refine e_aload_n 0 dX9_putSpare_0 rfl ?_
  have o1 := h.1
  replace h := h.2
  refine e_getR dX9_putSpare_1 flX9_20 rfl o1 ?_
  refine e_iload_n 1 dX9_putSpare_4 rfl ?_
  have o2 := h.1
  replace h := h.2
  have o3 := h.1
  replace h := h.2
  refine e_aald (t := 24) dX9_putSpare_5 o2 (by decide) (by decide) o3 ?_
  refine e_astore_n (ls2 := [(2, vR (R (R x0 1) (Int.toNat x1))), (0, vR x0), (1, vI x1)]) dX9_putSpare_6 (by decide) rfl ?_
  refine e_aload_n 1 dX9_putSpare_7 rfl ?_
  refine e_getR dX9_putSpare_8 flX9_20 rfl o1 ?_
  refine e_iload_n 2 dX9_putSpare_11 rfl ?_
  refine e_aload_n 1 dX9_putSpare_12 rfl ?_
  refine e_getR dX9_putSpare_13 flX9_60 rfl o1 ?_
  have o4 := h.1
  replace h := h.2
  obtain ⟨R16, eR16⟩ : ∃ z : MR, z = up2 R (R x0 1) (Int.toNat x1) (R x0 8) := ⟨_, rfl⟩
  replace h := h R16 eR16
  refine e_aast (t := 24) dX9_putSpare_16 o2 (Or.inl ⟨rfl, o4⟩) o3 (eqR eR16 ?_)
  refine e_aload_n 1 dX9_putSpare_17 rfl ?_
  refine e_aload_n 0 dX9_putSpare_18 rfl ?_
  obtain ⟨R19, eR19⟩ : ∃ z : MR, z = up2 R16 x0 8 (R (R x0 1) (Int.toNat x1)) := ⟨_, rfl⟩
  replace h := h R19 eR19
  refine e_putR dX9_putSpare_19 flX9_60 rfl (Or.inl rfl) o1 (eqR eR19 ?_)
  refine e_aload_n 1 dX9_putSpare_22 rfl ?_
  refine e_getR dX9_putSpare_23 flX9_47 rfl o1 ?_
  refine e_astore_n (ls2 := [(3, vR (R19 x0 5)), (2, vR (R (R x0 1) (Int.toNat x1))), (0, vR x0), (1, vI x1)]) dX9_putSpare_26 (by decide) rfl ?_
  refine e_aload_n 0 dX9_putSpare_27 rfl ?_
  have o5 := h.1
  replace h := h.2
  refine e_alen dX9_putSpare_28 o5 ?_
  refine e_istore (ls2 := [(4, vI (sL S (R19 x0 5) : Int)), (3, vR (R19 x0 5)), (2, vR (R (R x0 1) (Int.toNat x1))), (0, vR x0), (1, vI x1)]) dX9_putSpare_29 (by decide) rfl ?_
  refine e_iconst dX9_putSpare_31 (by unfold InR; decide) ?_
  refine e_istore (ls2 := [(5, vI 0), (4, vI (sL S (R19 x0 5) : Int)), (3, vR (R19 x0 5)), (2, vR (R (R x0 1) (Int.toNat x1))), (0, vR x0), (1, vI x1)]) dX9_putSpare_32 (by decide) rfl ?_
  exact e_sub (ls2 := [(0, vR x0), (1, vI x1), (3, vR (R19 x0 5)), (4, vI (sL S (R19 x0 5) : Int)), (5, vI 0)]) [4, 5, 2, 1, 0] rfl h
set_option maxRecDepth 100000 in
set_option maxHeartbeats 4000000 in
theorem bX9_putSpare_34 {G : Gl} {S : Sh} {I : MI} {R : MR} {Q : Sh → MI → MR → Int → Prop} {x0 : Nat} {x1 : Int} {x3 : Nat} {x4 : Int} {x5 : Int} (h : ((x4 ≤ x5 → (sT S x0 = 9 ∧ (sT S (R x0 1) = 24 ∧ (((0 : Int) ≤ x1 ∧ x1 < (sL S (R x0 1) : Int)) ∧ (sT S (R (R x0 1) (Int.toNat x1)) = 5 ∧ Q S I R (I (R (R x0 1) (Int.toNat x1)) 2)))))) ∧ (¬ (x4 ≤ x5) → (sT S x3 = 26 ∧ (((0 : Int) ≤ x5 ∧ x5 < (sL S x3 : Int)) ∧ (sT S (R x3 (Int.toNat x5)) = 3 ∧ (((iand (ishr (I (R x3 (Int.toNat x5)) 0) x1) 1) ≠ 1 → LX9_putSpare_34 G x0 x1 x3 x4 (w32 (x5 + 1)) S I R Q) ∧ (¬ ((iand (ishr (I (R x3 (Int.toNat x5)) 0) x1) 1) ≠ 1) → (∀ I63, I63 = up2 I (R x3 (Int.toNat x5)) 0 (-1) → LX9_putSpare_34 G x0 x1 x3 x4 (w32 (x5 + 1)) S I63 R Q))))))))) : LX9_putSpare_34 G x0 x1 x3 x4 x5 S I R Q := by
  show E G MX9_putSpare 34 [(0, vR x0), (1, vI x1), (3, vR x3), (4, vI x4), (5, vI x5)] [] S I R (qI Q)
  refine e_iload 4 dX9_putSpare_34 rfl ?_
  refine e_iload 3 dX9_putSpare_36 rfl ?_
  refine e_icmp_ge (tgt := 72) dX9_putSpare_38 (by decide) (fun c => ?_) (fun c => ?_)
  · replace h := h.1 c
    refine e_aload_n 0 dX9_putSpare_72 rfl ?_
    have o6 := h.1
    replace h := h.2
    refine e_getR dX9_putSpare_73 flX9_20 rfl o6 ?_
    refine e_iload_n 1 dX9_putSpare_76 rfl ?_
    have o7 := h.1
    replace h := h.2
    have o8 := h.1
    replace h := h.2
    refine e_aald (t := 24) dX9_putSpare_77 o7 (by decide) (by decide) o8 ?_
    have o9 := h.1
    replace h := h.2
    refine e_getI dX9_putSpare_78 flX9_142 rfl o9 ?_
    exact e_ireturn dX9_putSpare_81 rfl ⟨_, rfl, h⟩
  · replace h := h.2 c
    refine e_aload_n 2 dX9_putSpare_41 rfl ?_
    refine e_iload 4 dX9_putSpare_42 rfl ?_
    have o10 := h.1
    replace h := h.2
    have o11 := h.1
    replace h := h.2
    refine e_aald (t := 26) dX9_putSpare_44 o10 (by decide) (by decide) o11 ?_
    refine e_astore (ls2 := [(6, vR (R x3 (Int.toNat x5))), (0, vR x0), (1, vI x1), (3, vR x3), (4, vI x4), (5, vI x5)]) dX9_putSpare_45 (by decide) rfl ?_
    refine e_aload 0 dX9_putSpare_47 rfl ?_
    have o12 := h.1
    replace h := h.2
    refine e_getI dX9_putSpare_49 flX9_264 rfl o12 ?_
    refine e_iload_n 2 dX9_putSpare_52 rfl ?_
    refine e_ishr dX9_putSpare_53 ?_
    refine e_iconst dX9_putSpare_54 (by unfold InR; decide) ?_
    refine e_iand dX9_putSpare_55 ?_
    refine e_iconst dX9_putSpare_56 (by unfold InR; decide) ?_
    refine e_icmp_ne (tgt := 66) dX9_putSpare_57 (by decide) (fun c => ?_) (fun c => ?_)
    · replace h := h.1 c
      refine e_iinc (ls2 := [(5, vI (w32 (x5 + 1))), (6, vR (R x3 (Int.toNat x5))), (0, vR x0), (1, vI x1), (3, vR x3), (4, vI x4)]) 5 dX9_putSpare_66 rfl (by decide) rfl ?_
      refine e_goto (tgt := 34) dX9_putSpare_69 (by decide) ?_
      exact e_sub (ls2 := [(0, vR x0), (1, vI x1), (3, vR x3), (4, vI x4), (5, vI (w32 (x5 + 1)))]) [2, 3, 4, 5, 0] rfl h
    · replace h := h.2 c
      refine e_aload 0 dX9_putSpare_60 rfl ?_
      refine e_iconst dX9_putSpare_62 (by unfold InR; decide) ?_
      obtain ⟨I63, eI63⟩ : ∃ z : MI, z = up2 I (R x3 (Int.toNat x5)) 0 (-1) := ⟨_, rfl⟩
      replace h := h I63 eI63
      refine e_putI dX9_putSpare_63 flX9_264 rfl (Or.inl rfl) o12 (eqI eI63 ?_)
      refine e_iinc (ls2 := [(5, vI (w32 (x5 + 1))), (6, vR (R x3 (Int.toNat x5))), (0, vR x0), (1, vI x1), (3, vR x3), (4, vI x4)]) 5 dX9_putSpare_66 rfl (by decide) rfl ?_
      refine e_goto (tgt := 34) dX9_putSpare_69 (by decide) ?_
      exact e_sub (ls2 := [(0, vR x0), (1, vI x1), (3, vR x3), (4, vI x4), (5, vI (w32 (x5 + 1)))]) [2, 3, 4, 5, 0] rfl h

def LX9_poly_25 (G : Gl) (x0 : Nat) (x1 : Int) (S : Sh) (I : MI) (R : MR) (Q : Sh → MI → MR → Int → Prop) : Prop := E G MX9_poly 25 [(0, vR x0), (1, vI x1)] [] S I R (qI Q)
set_option maxRecDepth 100000 in
set_option maxHeartbeats 4000000 in
theorem bX9_poly {G : Gl} {S : Sh} {I : MI} {R : MR} {Q : Sh → MI → MR → Int → Prop} {x0 : Nat} {x1 : Int} (h : (sT S x0 = 9 ∧ (sT S (R x0 2) = 7 ∧ (CV G MX7_clearFault [vR (R x0 2)] S I R (fun S4 I4 R4 => (((vX9_isSlot x1) = 0 → LX9_poly_25 G x0 x1 S4 I4 R4 Q) ∧ (¬ ((vX9_isSlot x1) = 0) → (sT S4 x0 = 9 ∧ (sT S4 (R4 x0 2) = 7 ∧ (CV G MX7_read [vR (R4 x0 2), vR (R4 x0 0)] S4 I4 R4 (fun S22 I22 R22 => LX9_poly_25 G x0 x1 S22 I22 R22 Q))))))))))) : CI G MX9_poly [vR x0, vI x1] S I R Q := by
  show E G MX9_poly 0 [(0, vR x0), (1, vI x1)] [] S I R (qI Q)
  refine e_aload_n 0 dX9_poly_0 rfl ?_
  have o1 := h.1
  replace h := h.2
  refine e_getR dX9_poly_1 flX9_27 rfl o1 ?_
  have o2 := h.1
  replace h := h.2
  refine i_VV (μ' := MX7_clearFault) (ci := 6) (r := (R x0 2)) (as := []) (st := []) rfl dX9_poly_4 mOKX7_clearFault ⟨mlX9_108, imX7_clearFault, seX7_clearFault⟩ (by decide) (Nat.le_of_ble_eq_true rfl) rfl (Nat.le_of_ble_eq_true rfl) ⟨by decide, rfl⟩ o2 (CV.mono h ?_)
  clear h
  intro S4 I4 R4 h
  refine e_iload_n 1 dX9_poly_7 rfl ?_
  refine i_SI (μ' := MX9_isSlot) (as := [vI x1]) (st := []) rfl dX9_poly_8 mOKX9_isSlot ⟨mlX9_111, stX9_isSlot⟩ (by decide) (Nat.le_of_ble_eq_true rfl) rfl (Nat.le_of_ble_eq_true rfl) (sX9_isSlot ?_)
  refine e_if_eq (tgt := 25) dX9_poly_11 (by decide) (fun c => ?_) (fun c => ?_)
  · replace h := h.1 c
    exact e_sub (ls2 := [(0, vR x0), (1, vI x1)]) [0, 1] rfl h
  · replace h := h.2 c
    refine e_aload_n 0 dX9_poly_14 rfl ?_
    have o3 := h.1
    replace h := h.2
    refine e_getR dX9_poly_15 flX9_27 rfl o3 ?_
    refine e_aload_n 0 dX9_poly_18 rfl ?_
    refine e_getR dX9_poly_19 flX9_12 rfl o3 ?_
    have o4 := h.1
    replace h := h.2
    refine i_VV (μ' := MX7_read) (ci := 6) (r := (R4 x0 2)) (as := [vR (R4 x0 0)]) (st := []) rfl dX9_poly_22 mOKX7_read ⟨mlX9_114, imX7_read, seX7_read⟩ (by decide) (Nat.le_of_ble_eq_true rfl) rfl (Nat.le_of_ble_eq_true rfl) ⟨by decide, rfl⟩ o4 (CV.mono h ?_)
    clear h
    intro S22 I22 R22 h
    exact e_sub (ls2 := [(0, vR x0), (1, vI x1)]) [0, 1] rfl h
set_option maxRecDepth 100000 in
set_option maxHeartbeats 4000000 in
theorem bX9_poly_25 {G : Gl} {S : Sh} {I : MI} {R : MR} {Q : Sh → MI → MR → Int → Prop} {x0 : Nat} {x1 : Int} (h : (sT S x0 = 9 ∧ (sT S (R x0 2) = 7 ∧ (∀ I30, I30 = up2 I (R x0 2) 1 0 → (((vX9_isSlot x1) = 0 → Q S I30 R (-1)) ∧ (¬ ((vX9_isSlot x1) = 0) → (((I30 (R x0 2) 2) = 0 → (sT S (R x0 8) = 5 ∧ (CV G MX5_become [vR (R x0 8), vR (R (R x0 2) 4)] S I30 R (fun S63 I63 R63 => (sT S63 x0 = 9 ∧ (CI G MX9_putSpare [vR x0, vI x1] S63 I63 R63 (fun S68 I68 R68 x68_ => Q S68 I68 R68 x68_))))))) ∧ (¬ ((I30 (R x0 2) 2) = 0) → Q S I30 R (-1))))))))) : LX9_poly_25 G x0 x1 S I R Q := by
  show E G MX9_poly 25 [(0, vR x0), (1, vI x1)] [] S I R (qI Q)
  refine e_aload_n 0 dX9_poly_25 rfl ?_
  have o5 := h.1
  replace h := h.2
  refine e_getR dX9_poly_26 flX9_27 rfl o5 ?_
  refine e_iconst dX9_poly_29 (by unfold InR; decide) ?_
  have o6 := h.1
  replace h := h.2
  obtain ⟨I30, eI30⟩ : ∃ z : MI, z = up2 I (R x0 2) 1 0 := ⟨_, rfl⟩
  replace h := h I30 eI30
  refine e_putI dX9_poly_30 flX9_102 rfl (Or.inl rfl) o6 (eqI eI30 ?_)
  refine e_iload_n 1 dX9_poly_33 rfl ?_
  refine i_SI (μ' := MX9_isSlot) (as := [vI x1]) (st := []) rfl dX9_poly_34 mOKX9_isSlot ⟨mlX9_111, stX9_isSlot⟩ (by decide) (Nat.le_of_ble_eq_true rfl) rfl (Nat.le_of_ble_eq_true rfl) (sX9_isSlot ?_)
  refine e_if_eq (tgt := 50) dX9_poly_37 (by decide) (fun c => ?_) (fun c => ?_)
  · replace h := h.1 c
    refine e_iconst dX9_poly_50 (by unfold InR; decide) ?_
    exact e_ireturn dX9_poly_51 rfl ⟨_, rfl, h⟩
  · replace h := h.2 c
    refine e_aload_n 0 dX9_poly_40 rfl ?_
    refine e_getR dX9_poly_41 flX9_27 rfl o5 ?_
    refine e_getI dX9_poly_44 flX9_117 rfl o6 ?_
    refine e_if_eq (tgt := 52) dX9_poly_47 (by decide) (fun c => ?_) (fun c => ?_)
    · replace h := h.1 c
      refine e_aload_n 0 dX9_poly_52 rfl ?_
      refine e_getR dX9_poly_53 flX9_60 rfl o5 ?_
      refine e_aload_n 0 dX9_poly_56 rfl ?_
      refine e_getR dX9_poly_57 flX9_27 rfl o5 ?_
      refine e_getR dX9_poly_60 flX9_120 rfl o6 ?_
      have o7 := h.1
      replace h := h.2
      refine i_VV (μ' := MX5_become) (ci := 4) (r := (R x0 8)) (as := [vR (R (R x0 2) 4)]) (st := []) rfl dX9_poly_63 mOKX5_become ⟨mlX9_123, imX5_become, seX5_become⟩ (by decide) (Nat.le_of_ble_eq_true rfl) rfl (Nat.le_of_ble_eq_true rfl) ⟨by decide, rfl⟩ o7 (CV.mono h ?_)
      clear h
      intro S63 I63 R63 h
      refine e_aload_n 0 dX9_poly_66 rfl ?_
      refine e_iload_n 1 dX9_poly_67 rfl ?_
      have o8 := h.1
      replace h := h.2
      refine i_VI (μ' := MX9_putSpare) (ci := 8) (r := x0) (as := [vI x1]) (st := []) rfl dX9_poly_68 mOKX9_putSpare ⟨mlX9_127, imX9_putSpare, seX9_putSpare⟩ (by decide) (Nat.le_of_ble_eq_true rfl) rfl (Nat.le_of_ble_eq_true rfl) ⟨by decide, rfl⟩ o8 (CI.mono h ?_)
      clear h
      intro S68 I68 R68 x68_ h
      exact e_ireturn dX9_poly_71 rfl ⟨_, rfl, h⟩
    · replace h := h.2 c
      refine e_iconst dX9_poly_50 (by unfold InR; decide) ?_
      exact e_ireturn dX9_poly_51 rfl ⟨_, rfl, h⟩

set_option maxRecDepth 100000 in
set_option maxHeartbeats 4000000 in
theorem bX9_show {G : Gl} {S : Sh} {I : MI} {R : MR} {Q : Sh → MI → MR → Int → Prop} {x0 : Nat} {x1 : Int} (h : (((vX9_isSlot x1) ≠ 0 → (sT S x0 = 9 ∧ (sT S (R x0 1) = 24 ∧ (((0 : Int) ≤ x1 ∧ x1 < (sL S (R x0 1) : Int)) ∧ (sT S (R x0 3) = 8 ∧ (CV G MX8_write [vR (R x0 3), vR (R (R x0 1) (Int.toNat x1))] S I R (fun S19 I19 R19 => (sT S19 x0 = 9 ∧ (sT S19 (R19 x0 3) = 8 ∧ Q S19 I19 R19 (I19 (R19 x0 3) 1)))))))))) ∧ (¬ ((vX9_isSlot x1) ≠ 0) → Q S I R (-1)))) : CI G MX9_show [vR x0, vI x1] S I R Q := by
  show E G MX9_show 0 [(0, vR x0), (1, vI x1)] [] S I R (qI Q)
  refine e_iload_n 1 dX9_show_0 rfl ?_
  refine i_SI (μ' := MX9_isSlot) (as := [vI x1]) (st := []) rfl dX9_show_1 mOKX9_isSlot ⟨mlX9_111, stX9_isSlot⟩ (by decide) (Nat.le_of_ble_eq_true rfl) rfl (Nat.le_of_ble_eq_true rfl) (sX9_isSlot ?_)
  refine e_if_ne (tgt := 9) dX9_show_4 (by decide) (fun c => ?_) (fun c => ?_)
  · replace h := h.1 c
    refine e_aload_n 0 dX9_show_9 rfl ?_
    have o1 := h.1
    replace h := h.2
    refine e_getR dX9_show_10 flX9_34 rfl o1 ?_
    refine e_aload_n 0 dX9_show_13 rfl ?_
    refine e_getR dX9_show_14 flX9_20 rfl o1 ?_
    refine e_iload_n 1 dX9_show_17 rfl ?_
    have o2 := h.1
    replace h := h.2
    have o3 := h.1
    replace h := h.2
    refine e_aald (t := 24) dX9_show_18 o2 (by decide) (by decide) o3 ?_
    have o4 := h.1
    replace h := h.2
    refine i_VV (μ' := MX8_write) (ci := 7) (r := (R x0 3)) (as := [vR (R (R x0 1) (Int.toNat x1))]) (st := []) rfl dX9_show_19 mOKX8_write ⟨mlX9_134, imX8_write, seX8_write⟩ (by decide) (Nat.le_of_ble_eq_true rfl) rfl (Nat.le_of_ble_eq_true rfl) ⟨by decide, rfl⟩ o4 (CV.mono h ?_)
    clear h
    intro S19 I19 R19 h
    refine e_aload_n 0 dX9_show_22 rfl ?_
    have o5 := h.1
    replace h := h.2
    refine e_getR dX9_show_23 flX9_34 rfl o5 ?_
    have o6 := h.1
    replace h := h.2
    refine e_getI dX9_show_26 flX9_137 rfl o6 ?_
    exact e_ireturn dX9_show_29 rfl ⟨_, rfl, h⟩
  · replace h := h.2 c
    refine e_iconst dX9_show_7 (by unfold InR; decide) ?_
    exact e_ireturn dX9_show_8 rfl ⟨_, rfl, h⟩

def vX9_out (I : MI) (R : MR) (x0 : Nat) (x1 : Int) : Int := (if x1 < 0 then (-1) else (if (I (R x0 3) 1) ≤ x1 then (-1) else (I (R (R x0 3) 0) (Int.toNat x1))))
def pX9_out (S : Sh) (I : MI) (R : MR) (x0 : Nat) (x1 : Int) : Prop := ((x1 < 0 → True) ∧ (¬ (x1 < 0) → (sT S x0 = 9 ∧ (sT S (R x0 3) = 8 ∧ (((I (R x0 3) 1) ≤ x1 → True) ∧ (¬ ((I (R x0 3) 1) ≤ x1) → (sT S (R (R x0 3) 0) = 21 ∧ (((0 : Int) ≤ x1 ∧ x1 < (sL S (R (R x0 3) 0) : Int)) ∧ True))))))))
set_option maxRecDepth 100000 in
set_option maxHeartbeats 4000000 in
theorem sX9_out {G : Gl} {S : Sh} {I : MI} {R : MR} {Q : Sh → MI → MR → Int → Prop} {x0 : Nat} {x1 : Int} (hp : pX9_out S I R x0 x1) (hq : Q S I R (vX9_out I R x0 x1)) : CI G MX9_out [vR x0, vI x1] S I R Q := by
  show E G MX9_out 0 [(0, vR x0), (1, vI x1)] [] S I R (qI Q)
  unfold vX9_out at hq
  unfold pX9_out at hp
  refine e_iload_n 1 dX9_out_0 rfl ?_
  refine e_if_lt (tgt := 27) dX9_out_1 (by decide) (fun c => ?_) (fun c => ?_)
  · rw [if_pos c] at hq
    replace hp := hp.1 c
    refine e_iconst dX9_out_27 (by unfold InR; decide) ?_
    exact e_ireturn dX9_out_28 rfl ⟨_, rfl, hq⟩
  · rw [if_neg c] at hq
    replace hp := hp.2 c
    refine e_iload_n 1 dX9_out_4 rfl ?_
    refine e_aload_n 0 dX9_out_5 rfl ?_
    have o1 := hp.1
    replace hp := hp.2
    refine e_getR dX9_out_6 flX9_34 rfl o1 ?_
    have o2 := hp.1
    replace hp := hp.2
    refine e_getI dX9_out_9 flX9_137 rfl o2 ?_
    refine e_icmp_ge (tgt := 27) dX9_out_12 (by decide) (fun c => ?_) (fun c => ?_)
    · rw [if_pos c] at hq
      replace hp := hp.1 c
      refine e_iconst dX9_out_27 (by unfold InR; decide) ?_
      exact e_ireturn dX9_out_28 rfl ⟨_, rfl, hq⟩
    · rw [if_neg c] at hq
      replace hp := hp.2 c
      refine e_aload_n 0 dX9_out_15 rfl ?_
      refine e_getR dX9_out_16 flX9_34 rfl o1 ?_
      refine e_getR dX9_out_19 flX9_138 rfl o2 ?_
      refine e_iload_n 1 dX9_out_22 rfl ?_
      have o3 := hp.1
      replace hp := hp.2
      have o4 := hp.1
      replace hp := hp.2
      refine e_iald dX9_out_23 o3 o4 ?_
      refine e_goto (tgt := 28) dX9_out_24 (by decide) ?_
      exact e_ireturn dX9_out_28 rfl ⟨_, rfl, hq⟩

def vX9_tellMono  (x0 : Int) (x1 : Int) : Int := (if x1 ≠ 3 then (vX3_exponent x0 x1) else (vX3_degree x0))
set_option maxRecDepth 100000 in
set_option maxHeartbeats 4000000 in
theorem sX9_tellMono {G : Gl} {S : Sh} {I : MI} {R : MR} {Q : Sh → MI → MR → Int → Prop} {x0 : Int} {x1 : Int} (hq : Q S I R (vX9_tellMono x0 x1)) : CI G MX9_tellMono [vI x0, vI x1] S I R Q := by
  show E G MX9_tellMono 0 [(0, vI x0), (1, vI x1)] [] S I R (qI Q)
  unfold vX9_tellMono at hq
  refine e_iload_n 1 dX9_tellMono_0 rfl ?_
  refine e_iconst dX9_tellMono_1 (by unfold InR; decide) ?_
  refine e_icmp_ne (tgt := 12) dX9_tellMono_2 (by decide) (fun c => ?_) (fun c => ?_)
  · rw [if_pos c] at hq
    refine e_iload_n 0 dX9_tellMono_12 rfl ?_
    refine e_iload_n 1 dX9_tellMono_13 rfl ?_
    refine i_SI (μ' := MX3_exponent) (as := [vI x0, vI x1]) (st := []) rfl dX9_tellMono_14 mOKX3_exponent ⟨mlX9_275, stX3_exponent⟩ (by decide) (Nat.le_of_ble_eq_true rfl) rfl (Nat.le_of_ble_eq_true rfl) (sX3_exponent ?_)
    exact e_ireturn dX9_tellMono_17 rfl ⟨_, rfl, hq⟩
  · rw [if_neg c] at hq
    refine e_iload_n 0 dX9_tellMono_5 rfl ?_
    refine i_SI (μ' := MX3_degree) (as := [vI x0]) (st := []) rfl dX9_tellMono_6 mOKX3_degree ⟨mlX9_272, stX3_degree⟩ (by decide) (Nat.le_of_ble_eq_true rfl) rfl (Nat.le_of_ble_eq_true rfl) (sX3_degree ?_)
    refine e_goto (tgt := 17) dX9_tellMono_9 (by decide) ?_
    exact e_ireturn dX9_tellMono_17 rfl ⟨_, rfl, hq⟩

def vX9_term (I : MI) (R : MR) (x0 : Nat) (x1 : Int) (x2 : Int) (x3 : Int) : Int := (if (vX9_isSlot x1) ≠ 0 then (if x2 ≠ (-1) then (if x2 < 0 then (-1) else (if (I (R (R x0 1) (Int.toNat x1)) 2) ≤ x2 then (-1) else (if x3 < 0 then (-1) else (if x3 ≤ 4 then (if x3 ≠ 0 then (vX9_tellMono (I (R (R (R x0 1) (Int.toNat x1)) 0) (Int.toNat x2)) (w32 (x3 - 1))) else (I (R (R (R x0 1) (Int.toNat x1)) 1) (Int.toNat x2))) else (-1))))) else (I (R (R x0 1) (Int.toNat x1)) 2)) else (-1))
def pX9_term (S : Sh) (I : MI) (R : MR) (x0 : Nat) (x1 : Int) (x2 : Int) (x3 : Int) : Prop := (((vX9_isSlot x1) ≠ 0 → (sT S x0 = 9 ∧ (sT S (R x0 1) = 24 ∧ (((0 : Int) ≤ x1 ∧ x1 < (sL S (R x0 1) : Int)) ∧ ((x2 ≠ (-1) → ((x2 < 0 → True) ∧ (¬ (x2 < 0) → (sT S (R (R x0 1) (Int.toNat x1)) = 5 ∧ (((I (R (R x0 1) (Int.toNat x1)) 2) ≤ x2 → True) ∧ (¬ ((I (R (R x0 1) (Int.toNat x1)) 2) ≤ x2) → ((x3 < 0 → True) ∧ (¬ (x3 < 0) → ((x3 ≤ 4 → ((x3 ≠ 0 → (sT S (R (R (R x0 1) (Int.toNat x1)) 0) = 21 ∧ (((0 : Int) ≤ x2 ∧ x2 < (sL S (R (R (R x0 1) (Int.toNat x1)) 0) : Int)) ∧ True))) ∧ (¬ (x3 ≠ 0) → (sT S (R (R (R x0 1) (Int.toNat x1)) 1) = 21 ∧ (((0 : Int) ≤ x2 ∧ x2 < (sL S (R (R (R x0 1) (Int.toNat x1)) 1) : Int)) ∧ True))))) ∧ (¬ (x3 ≤ 4) → True)))))))))) ∧ (¬ (x2 ≠ (-1)) → (sT S (R (R x0 1) (Int.toNat x1)) = 5 ∧ True))))))) ∧ (¬ ((vX9_isSlot x1) ≠ 0) → True))
set_option maxRecDepth 100000 in
set_option maxHeartbeats 4000000 in
theorem sX9_term {G : Gl} {S : Sh} {I : MI} {R : MR} {Q : Sh → MI → MR → Int → Prop} {x0 : Nat} {x1 : Int} {x2 : Int} {x3 : Int} (hp : pX9_term S I R x0 x1 x2 x3) (hq : Q S I R (vX9_term I R x0 x1 x2 x3)) : CI G MX9_term [vR x0, vI x1, vI x2, vI x3] S I R Q := by
  show E G MX9_term 0 [(0, vR x0), (1, vI x1), (2, vI x2), (3, vI x3)] [] S I R (qI Q)
  unfold vX9_term at hq
  unfold pX9_term at hp
  refine e_iload_n 1 dX9_term_0 rfl ?_
  refine i_SI (μ' := MX9_isSlot) (as := [vI x1]) (st := []) rfl dX9_term_1 mOKX9_isSlot ⟨mlX9_111, stX9_isSlot⟩ (by decide) (Nat.le_of_ble_eq_true rfl) rfl (Nat.le_of_ble_eq_true rfl) (sX9_isSlot ?_)
  refine e_if_ne (tgt := 9) dX9_term_4 (by decide) (fun c => ?_) (fun c => ?_)
  · rw [if_pos c] at hq
    replace hp := hp.1 c
    refine e_aload_n 0 dX9_term_9 rfl ?_
    have o1 := hp.1
    replace hp := hp.2
    refine e_getR dX9_term_10 flX9_20 rfl o1 ?_
    refine e_iload_n 1 dX9_term_13 rfl ?_
    have o2 := hp.1
    replace hp := hp.2
    have o3 := hp.1
    replace hp := hp.2
    refine e_aald (t := 24) dX9_term_14 o2 (by decide) (by decide) o3 ?_
    refine e_astore (ls2 := [(4, vR (R (R x0 1) (Int.toNat x1))), (0, vR x0), (1, vI x1), (2, vI x2), (3, vI x3)]) dX9_term_15 (by decide) rfl ?_
    refine e_iload_n 3 dX9_term_17 rfl ?_
    refine e_iconst dX9_term_18 (by unfold InR; decide) ?_
    refine e_icmp_ne (tgt := 28) dX9_term_19 (by decide) (fun c => ?_) (fun c => ?_)
    · rw [if_pos c] at hq
      replace hp := hp.1 c
      refine e_iload_n 3 dX9_term_28 rfl ?_
      refine e_if_lt (tgt := 50) dX9_term_29 (by decide) (fun c => ?_) (fun c => ?_)
      · rw [if_pos c] at hq
        replace hp := hp.1 c
        refine e_iconst dX9_term_50 (by unfold InR; decide) ?_
        exact e_ireturn dX9_term_51 rfl ⟨_, rfl, hq⟩
      · rw [if_neg c] at hq
        replace hp := hp.2 c
        refine e_iload_n 3 dX9_term_32 rfl ?_
        refine e_aload 0 dX9_term_33 rfl ?_
        have o4 := hp.1
        replace hp := hp.2
        refine e_getI dX9_term_35 flX9_142 rfl o4 ?_
        refine e_icmp_ge (tgt := 50) dX9_term_38 (by decide) (fun c => ?_) (fun c => ?_)
        · rw [if_pos c] at hq
          replace hp := hp.1 c
          refine e_iconst dX9_term_50 (by unfold InR; decide) ?_
          exact e_ireturn dX9_term_51 rfl ⟨_, rfl, hq⟩
        · rw [if_neg c] at hq
          replace hp := hp.2 c
          refine e_iload_n 4 dX9_term_41 rfl ?_
          refine e_if_lt (tgt := 50) dX9_term_42 (by decide) (fun c => ?_) (fun c => ?_)
          · rw [if_pos c] at hq
            replace hp := hp.1 c
            refine e_iconst dX9_term_50 (by unfold InR; decide) ?_
            exact e_ireturn dX9_term_51 rfl ⟨_, rfl, hq⟩
          · rw [if_neg c] at hq
            replace hp := hp.2 c
            refine e_iload_n 4 dX9_term_45 rfl ?_
            refine e_iconst dX9_term_46 (by unfold InR; decide) ?_
            refine e_icmp_le (tgt := 52) dX9_term_47 (by decide) (fun c => ?_) (fun c => ?_)
            · rw [if_pos c] at hq
              replace hp := hp.1 c
              refine e_iload_n 4 dX9_term_52 rfl ?_
              refine e_if_ne (tgt := 66) dX9_term_53 (by decide) (fun c => ?_) (fun c => ?_)
              · rw [if_pos c] at hq
                replace hp := hp.1 c
                refine e_aload 0 dX9_term_66 rfl ?_
                refine e_getR dX9_term_68 flX9_146 rfl o4 ?_
                refine e_iload_n 3 dX9_term_71 rfl ?_
                have o5 := hp.1
                replace hp := hp.2
                have o6 := hp.1
                replace hp := hp.2
                refine e_iald dX9_term_72 o5 o6 ?_
                refine e_iload_n 4 dX9_term_73 rfl ?_
                refine e_iconst dX9_term_74 (by unfold InR; decide) ?_
                refine e_isub dX9_term_75 ?_
                refine i_SI (μ' := MX9_tellMono) (as := [vI (I (R (R (R x0 1) (Int.toNat x1)) 0) (Int.toNat x2)), vI (w32 (x3 - 1))]) (st := []) rfl dX9_term_76 mOKX9_tellMono ⟨mlX9_149, stX9_tellMono⟩ (by decide) (Nat.le_of_ble_eq_true rfl) rfl (Nat.le_of_ble_eq_true rfl) (sX9_tellMono ?_)
                exact e_ireturn dX9_term_79 rfl ⟨_, rfl, hq⟩
              · rw [if_neg c] at hq
                replace hp := hp.2 c
                refine e_aload 0 dX9_term_56 rfl ?_
                refine e_getR dX9_term_58 flX9_143 rfl o4 ?_
                refine e_iload_n 3 dX9_term_61 rfl ?_
                have o7 := hp.1
                replace hp := hp.2
                have o8 := hp.1
                replace hp := hp.2
                refine e_iald dX9_term_62 o7 o8 ?_
                refine e_goto (tgt := 79) dX9_term_63 (by decide) ?_
                exact e_ireturn dX9_term_79 rfl ⟨_, rfl, hq⟩
            · rw [if_neg c] at hq
              replace hp := hp.2 c
              refine e_iconst dX9_term_50 (by unfold InR; decide) ?_
              exact e_ireturn dX9_term_51 rfl ⟨_, rfl, hq⟩
    · rw [if_neg c] at hq
      replace hp := hp.2 c
      refine e_aload 0 dX9_term_22 rfl ?_
      have o9 := hp.1
      replace hp := hp.2
      refine e_getI dX9_term_24 flX9_142 rfl o9 ?_
      exact e_ireturn dX9_term_27 rfl ⟨_, rfl, hq⟩
  · rw [if_neg c] at hq
    replace hp := hp.2 c
    refine e_iconst dX9_term_7 (by unfold InR; decide) ?_
    exact e_ireturn dX9_term_8 rfl ⟨_, rfl, hq⟩

def vX9_shape (I : MI) (R : MR) (x0 : Nat) (x1 : Int) (x2 : Int) : Int := (if (vX9_isSlot x1) ≠ 0 then (if x2 = 0 then (vX5_low I R (R (R x0 1) (Int.toNat x1))) else (if x2 = 1 then (vX5_high I R (R (R x0 1) (Int.toNat x1))) else (if x2 = 2 then (vX5_ecart I R (R (R x0 1) (Int.toNat x1))) else (if x2 = 3 then (if (vX5_low I R (R (R x0 1) (Int.toNat x1))) ≠ (vX5_high I R (R (R x0 1) (Int.toNat x1))) then 0 else 1) else (if x2 = 4 then (if (vX5_low I R (R (R x0 1) (Int.toNat x1))) ≠ 0 then 0 else 1) else (-1)))))) else (-1))
def pX9_shape (S : Sh) (I : MI) (R : MR) (x0 : Nat) (x1 : Int) (x2 : Int) : Prop := (((vX9_isSlot x1) ≠ 0 → (sT S x0 = 9 ∧ (sT S (R x0 1) = 24 ∧ (((0 : Int) ≤ x1 ∧ x1 < (sL S (R x0 1) : Int)) ∧ ((x2 = 0 → (sT S (R (R x0 1) (Int.toNat x1)) = 5 ∧ ((pX5_low S I R (R (R x0 1) (Int.toNat x1))) ∧ True))) ∧ (¬ (x2 = 0) → ((x2 = 1 → (sT S (R (R x0 1) (Int.toNat x1)) = 5 ∧ ((pX5_high S I R (R (R x0 1) (Int.toNat x1))) ∧ True))) ∧ (¬ (x2 = 1) → ((x2 = 2 → (sT S (R (R x0 1) (Int.toNat x1)) = 5 ∧ ((pX5_ecart S I R (R (R x0 1) (Int.toNat x1))) ∧ True))) ∧ (¬ (x2 = 2) → ((x2 = 3 → (sT S (R (R x0 1) (Int.toNat x1)) = 5 ∧ ((pX5_low S I R (R (R x0 1) (Int.toNat x1))) ∧ ((pX5_high S I R (R (R x0 1) (Int.toNat x1))) ∧ True)))) ∧ (¬ (x2 = 3) → ((x2 = 4 → (sT S (R (R x0 1) (Int.toNat x1)) = 5 ∧ ((pX5_low S I R (R (R x0 1) (Int.toNat x1))) ∧ True))) ∧ (¬ (x2 = 4) → True)))))))))))))) ∧ (¬ ((vX9_isSlot x1) ≠ 0) → True))
set_option maxRecDepth 100000 in
set_option maxHeartbeats 4000000 in
theorem sX9_shape {G : Gl} {S : Sh} {I : MI} {R : MR} {Q : Sh → MI → MR → Int → Prop} {x0 : Nat} {x1 : Int} {x2 : Int} (hp : pX9_shape S I R x0 x1 x2) (hq : Q S I R (vX9_shape I R x0 x1 x2)) : CI G MX9_shape [vR x0, vI x1, vI x2] S I R Q := by
  show E G MX9_shape 0 [(0, vR x0), (1, vI x1), (2, vI x2)] [] S I R (qI Q)
  unfold vX9_shape at hq
  unfold pX9_shape at hp
  refine e_iload_n 1 dX9_shape_0 rfl ?_
  refine i_SI (μ' := MX9_isSlot) (as := [vI x1]) (st := []) rfl dX9_shape_1 mOKX9_isSlot ⟨mlX9_111, stX9_isSlot⟩ (by decide) (Nat.le_of_ble_eq_true rfl) rfl (Nat.le_of_ble_eq_true rfl) (sX9_isSlot ?_)
  refine e_if_ne (tgt := 9) dX9_shape_4 (by decide) (fun c => ?_) (fun c => ?_)
  · rw [if_pos c] at hq
    replace hp := hp.1 c
    refine e_aload_n 0 dX9_shape_9 rfl ?_
    have o1 := hp.1
    replace hp := hp.2
    refine e_getR dX9_shape_10 flX9_20 rfl o1 ?_
    refine e_iload_n 1 dX9_shape_13 rfl ?_
    have o2 := hp.1
    replace hp := hp.2
    have o3 := hp.1
    replace hp := hp.2
    refine e_aald (t := 24) dX9_shape_14 o2 (by decide) (by decide) o3 ?_
    refine e_astore_n (ls2 := [(3, vR (R (R x0 1) (Int.toNat x1))), (0, vR x0), (1, vI x1), (2, vI x2)]) dX9_shape_15 (by decide) rfl ?_
    refine e_iload_n 3 dX9_shape_16 rfl ?_
    by_cases c0 : x2 = 0
    · rw [if_pos c0] at hq
      replace hp := hp.1 c0
      refine e_tabIn (tgt := 52) dX9_shape_17 0 c0 (by decide) rfl (by decide) ?_
      refine e_aload_n 0 dX9_shape_52 rfl ?_
      have o4 := hp.1
      replace hp := hp.2
      have o5 := hp.1
      replace hp := hp.2
      refine i_VI (μ' := MX5_low) (ci := 4) (r := (R (R x0 1) (Int.toNat x1))) (as := []) (st := []) rfl dX9_shape_53 mOKX5_low ⟨mlX9_153, imX5_low, seX5_low⟩ (by decide) (Nat.le_of_ble_eq_true rfl) rfl (Nat.le_of_ble_eq_true rfl) ⟨by decide, rfl⟩ o4 (sX5_low o5 ?_)
      exact e_ireturn dX9_shape_56 rfl ⟨_, rfl, hq⟩
    · rw [if_neg c0] at hq
      replace hp := hp.2 c0
      by_cases c1 : x2 = 1
      · rw [if_pos c1] at hq
        replace hp := hp.1 c1
        refine e_tabIn (tgt := 57) dX9_shape_17 1 c1 (by decide) rfl (by decide) ?_
        refine e_aload_n 0 dX9_shape_57 rfl ?_
        have o6 := hp.1
        replace hp := hp.2
        have o7 := hp.1
        replace hp := hp.2
        refine i_VI (μ' := MX5_high) (ci := 4) (r := (R (R x0 1) (Int.toNat x1))) (as := []) (st := []) rfl dX9_shape_58 mOKX5_high ⟨mlX9_157, imX5_high, seX5_high⟩ (by decide) (Nat.le_of_ble_eq_true rfl) rfl (Nat.le_of_ble_eq_true rfl) ⟨by decide, rfl⟩ o6 (sX5_high o7 ?_)
        exact e_ireturn dX9_shape_61 rfl ⟨_, rfl, hq⟩
      · rw [if_neg c1] at hq
        replace hp := hp.2 c1
        by_cases c2 : x2 = 2
        · rw [if_pos c2] at hq
          replace hp := hp.1 c2
          refine e_tabIn (tgt := 62) dX9_shape_17 2 c2 (by decide) rfl (by decide) ?_
          refine e_aload_n 0 dX9_shape_62 rfl ?_
          have o8 := hp.1
          replace hp := hp.2
          have o9 := hp.1
          replace hp := hp.2
          refine i_VI (μ' := MX5_ecart) (ci := 4) (r := (R (R x0 1) (Int.toNat x1))) (as := []) (st := []) rfl dX9_shape_63 mOKX5_ecart ⟨mlX9_160, imX5_ecart, seX5_ecart⟩ (by decide) (Nat.le_of_ble_eq_true rfl) rfl (Nat.le_of_ble_eq_true rfl) ⟨by decide, rfl⟩ o8 (sX5_ecart o9 ?_)
          exact e_ireturn dX9_shape_66 rfl ⟨_, rfl, hq⟩
        · rw [if_neg c2] at hq
          replace hp := hp.2 c2
          by_cases c3 : x2 = 3
          · rw [if_pos c3] at hq
            replace hp := hp.1 c3
            refine e_tabIn (tgt := 67) dX9_shape_17 3 c3 (by decide) rfl (by decide) ?_
            refine e_aload_n 0 dX9_shape_67 rfl ?_
            have o10 := hp.1
            replace hp := hp.2
            have o11 := hp.1
            replace hp := hp.2
            refine i_VI (μ' := MX5_low) (ci := 4) (r := (R (R x0 1) (Int.toNat x1))) (as := []) (st := []) rfl dX9_shape_68 mOKX5_low ⟨mlX9_153, imX5_low, seX5_low⟩ (by decide) (Nat.le_of_ble_eq_true rfl) rfl (Nat.le_of_ble_eq_true rfl) ⟨by decide, rfl⟩ o10 (sX5_low o11 ?_)
            refine e_aload_n 0 dX9_shape_71 rfl ?_
            have o12 := hp.1
            replace hp := hp.2
            refine i_VI (μ' := MX5_high) (ci := 4) (r := (R (R x0 1) (Int.toNat x1))) (as := []) (st := [vI (vX5_low I R (R (R x0 1) (Int.toNat x1)))]) rfl dX9_shape_72 mOKX5_high ⟨mlX9_157, imX5_high, seX5_high⟩ (by decide) (Nat.le_of_ble_eq_true rfl) rfl (Nat.le_of_ble_eq_true rfl) ⟨by decide, rfl⟩ o10 (sX5_high o12 ?_)
            refine e_icmp_ne (tgt := 82) dX9_shape_75 (by decide) (fun c => ?_) (fun c => ?_)
            · rw [if_pos c] at hq
              refine e_iconst dX9_shape_82 (by unfold InR; decide) ?_
              exact e_ireturn dX9_shape_83 rfl ⟨_, rfl, hq⟩
            · rw [if_neg c] at hq
              refine e_iconst dX9_shape_78 (by unfold InR; decide) ?_
              refine e_goto (tgt := 83) dX9_shape_79 (by decide) ?_
              exact e_ireturn dX9_shape_83 rfl ⟨_, rfl, hq⟩
          · rw [if_neg c3] at hq
            replace hp := hp.2 c3
            by_cases c4 : x2 = 4
            · rw [if_pos c4] at hq
              replace hp := hp.1 c4
              refine e_tabIn (tgt := 84) dX9_shape_17 4 c4 (by decide) rfl (by decide) ?_
              refine e_aload_n 0 dX9_shape_84 rfl ?_
              have o13 := hp.1
              replace hp := hp.2
              have o14 := hp.1
              replace hp := hp.2
              refine i_VI (μ' := MX5_low) (ci := 4) (r := (R (R x0 1) (Int.toNat x1))) (as := []) (st := []) rfl dX9_shape_85 mOKX5_low ⟨mlX9_153, imX5_low, seX5_low⟩ (by decide) (Nat.le_of_ble_eq_true rfl) rfl (Nat.le_of_ble_eq_true rfl) ⟨by decide, rfl⟩ o13 (sX5_low o14 ?_)
              refine e_if_ne (tgt := 95) dX9_shape_88 (by decide) (fun c => ?_) (fun c => ?_)
              · rw [if_pos c] at hq
                refine e_iconst dX9_shape_95 (by unfold InR; decide) ?_
                exact e_ireturn dX9_shape_96 rfl ⟨_, rfl, hq⟩
              · rw [if_neg c] at hq
                refine e_iconst dX9_shape_91 (by unfold InR; decide) ?_
                refine e_goto (tgt := 96) dX9_shape_92 (by decide) ?_
                exact e_ireturn dX9_shape_96 rfl ⟨_, rfl, hq⟩
            · rw [if_neg c4] at hq
              replace hp := hp.2 c4
              refine e_tabOut (tgt := 97) dX9_shape_17 (by omega) (by decide) ?_
              refine e_iconst dX9_shape_97 (by unfold InR; decide) ?_
              exact e_ireturn dX9_shape_98 rfl ⟨_, rfl, hq⟩
  · rw [if_neg c] at hq
    replace hp := hp.2 c
    refine e_iconst dX9_shape_7 (by unfold InR; decide) ?_
    exact e_ireturn dX9_shape_8 rfl ⟨_, rfl, hq⟩

def LX9_multiply_9 (G : Gl) (x0 : Nat) (x1 : Nat) (x2 : Nat) (x3 : Int) (S : Sh) (I : MI) (R : MR) (Q : Sh → MI → MR → Int → Prop) : Prop := E G MX9_multiply 9 [(0, vR x0), (1, vR x1), (2, vR x2), (3, vI x3)] [] S I R (qI Q)
set_option maxRecDepth 100000 in
set_option maxHeartbeats 4000000 in
theorem bX9_multiply {G : Gl} {S : Sh} {I : MI} {R : MR} {Q : Sh → MI → MR → Int → Prop} {x0 : Nat} {x1 : Nat} {x2 : Nat} (h : (sT S x0 = 9 ∧ (sT S (R x0 9) = 5 ∧ (CV G MX5_clear [vR (R x0 9)] S I R (fun S4 I4 R4 => LX9_multiply_9 G x0 x1 x2 0 S4 I4 R4 Q))))) : CI G MX9_multiply [vR x0, vR x1, vR x2] S I R Q := by
  show E G MX9_multiply 0 [(0, vR x0), (1, vR x1), (2, vR x2)] [] S I R (qI Q)
  refine e_aload_n 0 dX9_multiply_0 rfl ?_
  have o1 := h.1
  replace h := h.2
  refine e_getR dX9_multiply_1 flX9_64 rfl o1 ?_
  have o2 := h.1
  replace h := h.2
  refine i_VV (μ' := MX5_clear) (ci := 4) (r := (R x0 9)) (as := []) (st := []) rfl dX9_multiply_4 mOKX5_clear ⟨mlX9_89, imX5_clear, seX5_clear⟩ (by decide) (Nat.le_of_ble_eq_true rfl) rfl (Nat.le_of_ble_eq_true rfl) ⟨by decide, rfl⟩ o2 (CV.mono h ?_)
  clear h
  intro S4 I4 R4 h
  refine e_iconst dX9_multiply_7 (by unfold InR; decide) ?_
  refine e_istore_n (ls2 := [(3, vI 0), (0, vR x0), (1, vR x1), (2, vR x2)]) dX9_multiply_8 (by decide) rfl ?_
  exact e_sub (ls2 := [(0, vR x0), (1, vR x1), (2, vR x2), (3, vI 0)]) [1, 2, 3, 0] rfl h
set_option maxRecDepth 100000 in
set_option maxHeartbeats 4000000 in
theorem bX9_multiply_9 {G : Gl} {S : Sh} {I : MI} {R : MR} {Q : Sh → MI → MR → Int → Prop} {x0 : Nat} {x1 : Nat} {x2 : Nat} {x3 : Int} (h : (sT S x1 = 5 ∧ (((I x1 2) ≤ x3 → (sT S x0 = 9 ∧ (sT S (R x0 9) = 5 ∧ (((I (R x0 9) 2) ≤ 60 → (sT S (R x0 8) = 5 ∧ (CV G MX5_become [vR (R x0 8), vR (R x0 9)] S I R (fun S101 I101 R101 => Q S101 I101 R101 1)))) ∧ (¬ ((I (R x0 9) 2) ≤ 60) → Q S I R 0))))) ∧ (¬ ((I x1 2) ≤ x3) → (sT S x0 = 9 ∧ (sT S (R x1 1) = 21 ∧ (((0 : Int) ≤ x3 ∧ x3 < (sL S (R x1 1) : Int)) ∧ (sT S (R x1 0) = 21 ∧ (((0 : Int) ≤ x3 ∧ x3 < (sL S (R x1 0) : Int)) ∧ (sT S (R x0 0) = 6 ∧ (sT S (R x0 10) = 5 ∧ (CI G MX5_mix [vR (R x0 10), vR (R x0 9), vI (I (R x1 1) (Int.toNat x3)), vI (I (R x1 0) (Int.toNat x3)), vR x2, vR (R (R x0 0) 1)] S I R (fun S45 I45 R45 x45_ => ((x45_ ≠ 0 → (sT S45 x0 = 9 ∧ (∀ R64, R64 = up2 R45 x0 10 (R45 x0 9) → (∀ R70, R70 = up2 R64 x0 9 (R45 x0 10) → LX9_multiply_9 G x0 x1 x2 (w32 (x3 + 1)) S45 I45 R70 Q)))) ∧ (¬ (x45_ ≠ 0) → Q S45 I45 R45 0))))))))))))))) : LX9_multiply_9 G x0 x1 x2 x3 S I R Q := by
  show E G MX9_multiply 9 [(0, vR x0), (1, vR x1), (2, vR x2), (3, vI x3)] [] S I R (qI Q)
  refine e_iload_n 3 dX9_multiply_9 rfl ?_
  refine e_aload_n 1 dX9_multiply_10 rfl ?_
  have o3 := h.1
  replace h := h.2
  refine e_getI dX9_multiply_11 flX9_142 rfl o3 ?_
  refine e_icmp_ge (tgt := 79) dX9_multiply_14 (by decide) (fun c => ?_) (fun c => ?_)
  · replace h := h.1 c
    refine e_aload_n 0 dX9_multiply_79 rfl ?_
    have o4 := h.1
    replace h := h.2
    refine e_getR dX9_multiply_80 flX9_64 rfl o4 ?_
    have o5 := h.1
    replace h := h.2
    refine e_getI dX9_multiply_83 flX9_142 rfl o5 ?_
    refine e_bipush (x := 60) dX9_multiply_86 ⟨by decide +kernel, by unfold InR; decide⟩ ?_
    refine e_icmp_le (tgt := 93) dX9_multiply_88 (by decide) (fun c => ?_) (fun c => ?_)
    · replace h := h.1 c
      refine e_aload_n 0 dX9_multiply_93 rfl ?_
      refine e_getR dX9_multiply_94 flX9_60 rfl o4 ?_
      refine e_aload_n 0 dX9_multiply_97 rfl ?_
      refine e_getR dX9_multiply_98 flX9_64 rfl o4 ?_
      have o6 := h.1
      replace h := h.2
      refine i_VV (μ' := MX5_become) (ci := 4) (r := (R x0 8)) (as := [vR (R x0 9)]) (st := []) rfl dX9_multiply_101 mOKX5_become ⟨mlX9_123, imX5_become, seX5_become⟩ (by decide) (Nat.le_of_ble_eq_true rfl) rfl (Nat.le_of_ble_eq_true rfl) ⟨by decide, rfl⟩ o6 (CV.mono h ?_)
      clear h
      intro S101 I101 R101 h
      refine e_iconst dX9_multiply_104 (by unfold InR; decide) ?_
      exact e_zreturn dX9_multiply_105 rfl (by decide) ⟨_, rfl, h⟩
    · replace h := h.2 c
      refine e_iconst dX9_multiply_91 (by unfold InR; decide) ?_
      exact e_zreturn dX9_multiply_92 rfl (by decide) ⟨_, rfl, h⟩
  · replace h := h.2 c
    refine e_aload_n 0 dX9_multiply_17 rfl ?_
    have o7 := h.1
    replace h := h.2
    refine e_getR dX9_multiply_18 flX9_67 rfl o7 ?_
    refine e_aload_n 0 dX9_multiply_21 rfl ?_
    refine e_getR dX9_multiply_22 flX9_64 rfl o7 ?_
    refine e_aload_n 1 dX9_multiply_25 rfl ?_
    refine e_getR dX9_multiply_26 flX9_143 rfl o3 ?_
    refine e_iload_n 3 dX9_multiply_29 rfl ?_
    have o8 := h.1
    replace h := h.2
    have o9 := h.1
    replace h := h.2
    refine e_iald dX9_multiply_30 o8 o9 ?_
    refine e_aload_n 1 dX9_multiply_31 rfl ?_
    refine e_getR dX9_multiply_32 flX9_146 rfl o3 ?_
    refine e_iload_n 3 dX9_multiply_35 rfl ?_
    have o10 := h.1
    replace h := h.2
    have o11 := h.1
    replace h := h.2
    refine e_iald dX9_multiply_36 o10 o11 ?_
    refine e_aload_n 2 dX9_multiply_37 rfl ?_
    refine e_aload_n 0 dX9_multiply_38 rfl ?_
    refine e_getR dX9_multiply_39 flX9_12 rfl o7 ?_
    have o12 := h.1
    replace h := h.2
    refine e_getR dX9_multiply_42 flX9_81 rfl o12 ?_
    have o13 := h.1
    replace h := h.2
    refine i_VI (μ' := MX5_mix) (ci := 4) (r := (R x0 10)) (as := [vR (R x0 9), vI (I (R x1 1) (Int.toNat x3)), vI (I (R x1 0) (Int.toNat x3)), vR x2, vR (R (R x0 0) 1)]) (st := []) rfl dX9_multiply_45 mOKX5_mix ⟨mlX9_166, imX5_mix, seX5_mix⟩ (by decide) (Nat.le_of_ble_eq_true rfl) rfl (Nat.le_of_ble_eq_true rfl) ⟨by decide, rfl⟩ o13 (CI.mono h ?_)
    clear h
    intro S45 I45 R45 x45_ h
    refine e_if_ne (tgt := 53) dX9_multiply_48 (by decide) (fun c => ?_) (fun c => ?_)
    · replace h := h.1 c
      refine e_aload_n 0 dX9_multiply_53 rfl ?_
      have o14 := h.1
      replace h := h.2
      refine e_getR dX9_multiply_54 flX9_67 rfl o14 ?_
      refine e_astore (ls2 := [(4, vR (R45 x0 10)), (0, vR x0), (1, vR x1), (2, vR x2), (3, vI x3)]) dX9_multiply_57 (by decide) rfl ?_
      refine e_aload_n 1 dX9_multiply_59 rfl ?_
      refine e_aload_n 1 dX9_multiply_60 rfl ?_
      refine e_getR dX9_multiply_61 flX9_64 rfl o14 ?_
      obtain ⟨R64, eR64⟩ : ∃ z : MR, z = up2 R45 x0 10 (R45 x0 9) := ⟨_, rfl⟩
      replace h := h R64 eR64
      refine e_putR dX9_multiply_64 flX9_67 rfl (Or.inl rfl) o14 (eqR eR64 ?_)
      refine e_aload_n 1 dX9_multiply_67 rfl ?_
      refine e_aload 0 dX9_multiply_68 rfl ?_
      obtain ⟨R70, eR70⟩ : ∃ z : MR, z = up2 R64 x0 9 (R45 x0 10) := ⟨_, rfl⟩
      replace h := h R70 eR70
      refine e_putR dX9_multiply_70 flX9_64 rfl (Or.inl rfl) o14 (eqR eR70 ?_)
      refine e_iinc (ls2 := [(3, vI (w32 (x3 + 1))), (4, vR (R45 x0 10)), (0, vR x0), (1, vR x1), (2, vR x2)]) 4 dX9_multiply_73 rfl (by decide) rfl ?_
      refine e_goto (tgt := 9) dX9_multiply_76 (by decide) ?_
      exact e_sub (ls2 := [(0, vR x0), (1, vR x1), (2, vR x2), (3, vI (w32 (x3 + 1)))]) [2, 3, 4, 0] rfl h
    · replace h := h.2 c
      refine e_iconst dX9_multiply_51 (by unfold InR; decide) ?_
      exact e_zreturn dX9_multiply_52 rfl (by decide) ⟨_, rfl, h⟩

set_option maxRecDepth 100000 in
set_option maxHeartbeats 4000000 in
theorem bX9_make {G : Gl} {S : Sh} {I : MI} {R : MR} {Q : Sh → MI → MR → Int → Prop} {x0 : Nat} {x1 : Int} {x2 : Int} {x3 : Int} {x4 : Int} (h : (((vX9_isSlot x2) = 0 → Q S I R (-1)) ∧ (¬ ((vX9_isSlot x2) = 0) → (((vX9_isSlot x3) = 0 → Q S I R (-1)) ∧ (¬ ((vX9_isSlot x3) = 0) → (((vX9_isSlot x4) ≠ 0 → ((x1 ≠ 0 → ((x1 ≠ 1 → ((x1 ≠ 2 → Q S I R (-1)) ∧ (¬ (x1 ≠ 2) → (sT S x0 = 9 ∧ (sT S (R x0 1) = 24 ∧ (((0 : Int) ≤ x2 ∧ x2 < (sL S (R x0 1) : Int)) ∧ (((0 : Int) ≤ x3 ∧ x3 < (sL S (R x0 1) : Int)) ∧ (CI G MX9_multiply [vR x0, vR (R (R x0 1) (Int.toNat x2)), vR (R (R x0 1) (Int.toNat x3))] S I R (fun S136 I136 R136 x136_ => ((x136_ = 0 → Q S136 I136 R136 (-1)) ∧ (¬ (x136_ = 0) → (sT S136 x0 = 9 ∧ (CI G MX9_putSpare [vR x0, vI x4] S136 I136 R136 (fun S149 I149 R149 x149_ => Q S149 I149 R149 x149_)))))))))))))) ∧ (¬ (x1 ≠ 1) → (sT S x0 = 9 ∧ (sT S (R x0 0) = 6 ∧ (sT S (R (R x0 0) 1) = 4 ∧ ((pX4_negative S (R (R x0 0) 1) 1) ∧ (sT S (R x0 1) = 24 ∧ (((0 : Int) ≤ x2 ∧ x2 < (sL S (R x0 1) : Int)) ∧ (((0 : Int) ≤ x3 ∧ x3 < (sL S (R x0 1) : Int)) ∧ (sT S (R x0 8) = 5 ∧ (CI G MX5_mix [vR (R x0 8), vR (R (R x0 1) (Int.toNat x2)), vI (vX4_negative I (R (R x0 0) 1) 1), vI 262143, vR (R (R x0 1) (Int.toNat x3)), vR (R (R x0 0) 1)] S I R (fun S110 I110 R110 x110_ => ((x110_ = 0 → Q S110 I110 R110 (-1)) ∧ (¬ (x110_ = 0) → (sT S110 x0 = 9 ∧ (CI G MX9_putSpare [vR x0, vI x4] S110 I110 R110 (fun S149 I149 R149 x149_ => Q S149 I149 R149 x149_)))))))))))))))))) ∧ (¬ (x1 ≠ 0) → (sT S x0 = 9 ∧ (sT S (R x0 1) = 24 ∧ (((0 : Int) ≤ x2 ∧ x2 < (sL S (R x0 1) : Int)) ∧ (((0 : Int) ≤ x3 ∧ x3 < (sL S (R x0 1) : Int)) ∧ (sT S (R x0 0) = 6 ∧ (sT S (R x0 8) = 5 ∧ (CI G MX5_mix [vR (R x0 8), vR (R (R x0 1) (Int.toNat x2)), vI 1, vI 262143, vR (R (R x0 1) (Int.toNat x3)), vR (R (R x0 0) 1)] S I R (fun S57 I57 R57 x57_ => ((x57_ = 0 → Q S57 I57 R57 (-1)) ∧ (¬ (x57_ = 0) → (sT S57 x0 = 9 ∧ (CI G MX9_putSpare [vR x0, vI x4] S57 I57 R57 (fun S149 I149 R149 x149_ => Q S149 I149 R149 x149_)))))))))))))))) ∧ (¬ ((vX9_isSlot x4) ≠ 0) → Q S I R (-1)))))))) : CI G MX9_make [vR x0, vI x1, vI x2, vI x3, vI x4] S I R Q := by
  show E G MX9_make 0 [(0, vR x0), (1, vI x1), (2, vI x2), (3, vI x3), (4, vI x4)] [] S I R (qI Q)
  refine e_iload_n 2 dX9_make_0 rfl ?_
  refine i_SI (μ' := MX9_isSlot) (as := [vI x2]) (st := []) rfl dX9_make_1 mOKX9_isSlot ⟨mlX9_111, stX9_isSlot⟩ (by decide) (Nat.le_of_ble_eq_true rfl) rfl (Nat.le_of_ble_eq_true rfl) (sX9_isSlot ?_)
  refine e_if_eq (tgt := 22) dX9_make_4 (by decide) (fun c => ?_) (fun c => ?_)
  · replace h := h.1 c
    refine e_iconst dX9_make_22 (by unfold InR; decide) ?_
    exact e_ireturn dX9_make_23 rfl ⟨_, rfl, h⟩
  · replace h := h.2 c
    refine e_iload_n 3 dX9_make_7 rfl ?_
    refine i_SI (μ' := MX9_isSlot) (as := [vI x3]) (st := []) rfl dX9_make_8 mOKX9_isSlot ⟨mlX9_111, stX9_isSlot⟩ (by decide) (Nat.le_of_ble_eq_true rfl) rfl (Nat.le_of_ble_eq_true rfl) (sX9_isSlot ?_)
    refine e_if_eq (tgt := 22) dX9_make_11 (by decide) (fun c => ?_) (fun c => ?_)
    · replace h := h.1 c
      refine e_iconst dX9_make_22 (by unfold InR; decide) ?_
      exact e_ireturn dX9_make_23 rfl ⟨_, rfl, h⟩
    · replace h := h.2 c
      refine e_iload 4 dX9_make_14 rfl ?_
      refine i_SI (μ' := MX9_isSlot) (as := [vI x4]) (st := []) rfl dX9_make_16 mOKX9_isSlot ⟨mlX9_111, stX9_isSlot⟩ (by decide) (Nat.le_of_ble_eq_true rfl) rfl (Nat.le_of_ble_eq_true rfl) (sX9_isSlot ?_)
      refine e_if_ne (tgt := 24) dX9_make_19 (by decide) (fun c => ?_) (fun c => ?_)
      · replace h := h.1 c
        refine e_iconst dX9_make_24 (by unfold InR; decide) ?_
        refine e_istore (ls2 := [(5, vI 0), (0, vR x0), (1, vI x1), (2, vI x2), (3, vI x3), (4, vI x4)]) dX9_make_25 (by decide) rfl ?_
        refine e_iload_n 2 dX9_make_27 rfl ?_
        refine e_if_ne (tgt := 65) dX9_make_28 (by decide) (fun c => ?_) (fun c => ?_)
        · replace h := h.1 c
          refine e_iload_n 2 dX9_make_65 rfl ?_
          refine e_iconst dX9_make_66 (by unfold InR; decide) ?_
          refine e_icmp_ne (tgt := 118) dX9_make_67 (by decide) (fun c => ?_) (fun c => ?_)
          · replace h := h.1 c
            refine e_iload_n 2 dX9_make_118 rfl ?_
            refine e_iconst dX9_make_119 (by unfold InR; decide) ?_
            refine e_icmp_ne (tgt := 141) dX9_make_120 (by decide) (fun c => ?_) (fun c => ?_)
            · replace h := h.1 c
              refine e_iload 0 dX9_make_141 rfl ?_
              refine e_if_eq (tgt := 155) dX9_make_143 (by decide) (fun _ => ?_) (fun c => absurd (by decide) c)
              refine e_iconst dX9_make_155 (by unfold InR; decide) ?_
              exact e_ireturn dX9_make_156 rfl ⟨_, rfl, h⟩
            · replace h := h.2 c
              refine e_aload_n 1 dX9_make_123 rfl ?_
              refine e_aload_n 1 dX9_make_124 rfl ?_
              have o1 := h.1
              replace h := h.2
              refine e_getR dX9_make_125 flX9_20 rfl o1 ?_
              refine e_iload_n 3 dX9_make_128 rfl ?_
              have o2 := h.1
              replace h := h.2
              have o3 := h.1
              replace h := h.2
              refine e_aald (t := 24) dX9_make_129 o2 (by decide) (by decide) o3 ?_
              refine e_aload_n 1 dX9_make_130 rfl ?_
              refine e_getR dX9_make_131 flX9_20 rfl o1 ?_
              refine e_iload_n 4 dX9_make_134 rfl ?_
              have o4 := h.1
              replace h := h.2
              refine e_aald (t := 24) dX9_make_135 o2 (by decide) (by decide) o4 ?_
              refine i_VI (μ' := MX9_multiply) (ci := 8) (r := x0) (as := [vR (R (R x0 1) (Int.toNat x2)), vR (R (R x0 1) (Int.toNat x3))]) (st := []) rfl dX9_make_136 mOKX9_multiply ⟨mlX9_173, imX9_multiply, seX9_multiply⟩ (by decide) (Nat.le_of_ble_eq_true rfl) rfl (Nat.le_of_ble_eq_true rfl) ⟨by decide, rfl⟩ o1 (CI.mono h ?_)
              clear h
              intro S136 I136 R136 x136_ h
              refine e_istore (ls2 := [(5, vI x136_), (0, vR x0), (1, vI x1), (2, vI x2), (3, vI x3), (4, vI x4)]) dX9_make_139 (by decide) rfl ?_
              refine e_iload 0 dX9_make_141 rfl ?_
              refine e_if_eq (tgt := 155) dX9_make_143 (by decide) (fun c => ?_) (fun c => ?_)
              · replace h := h.1 c
                refine e_iconst dX9_make_155 (by unfold InR; decide) ?_
                exact e_ireturn dX9_make_156 rfl ⟨_, rfl, h⟩
              · replace h := h.2 c
                refine e_aload_n 1 dX9_make_146 rfl ?_
                refine e_iload 5 dX9_make_147 rfl ?_
                have o5 := h.1
                replace h := h.2
                refine i_VI (μ' := MX9_putSpare) (ci := 8) (r := x0) (as := [vI x4]) (st := []) rfl dX9_make_149 mOKX9_putSpare ⟨mlX9_127, imX9_putSpare, seX9_putSpare⟩ (by decide) (Nat.le_of_ble_eq_true rfl) rfl (Nat.le_of_ble_eq_true rfl) ⟨by decide, rfl⟩ o5 (CI.mono h ?_)
                clear h
                intro S149 I149 R149 x149_ h
                refine e_goto (tgt := 156) dX9_make_152 (by decide) ?_
                exact e_ireturn dX9_make_156 rfl ⟨_, rfl, h⟩
          · replace h := h.2 c
            refine e_aload_n 1 dX9_make_70 rfl ?_
            have o6 := h.1
            replace h := h.2
            refine e_getR dX9_make_71 flX9_12 rfl o6 ?_
            have o7 := h.1
            replace h := h.2
            refine e_getR dX9_make_74 flX9_81 rfl o7 ?_
            refine e_iconst dX9_make_77 (by unfold InR; decide) ?_
            have o8 := h.1
            replace h := h.2
            have o9 := h.1
            replace h := h.2
            refine i_VI (μ' := MX4_negative) (ci := 3) (r := (R (R x0 0) 1)) (as := [vI 1]) (st := []) rfl dX9_make_78 mOKX4_negative ⟨mlX9_170, imX4_negative, seX4_negative⟩ (by decide) (Nat.le_of_ble_eq_true rfl) rfl (Nat.le_of_ble_eq_true rfl) ⟨by decide, rfl⟩ o8 (sX4_negative o9 ?_)
            refine e_istore (ls2 := [(6, vI (vX4_negative I (R (R x0 0) 1) 1)), (5, vI 0), (0, vR x0), (1, vI x1), (2, vI x2), (3, vI x3), (4, vI x4)]) dX9_make_81 (by decide) rfl ?_
            refine e_aload_n 2 dX9_make_83 rfl ?_
            refine e_getR dX9_make_84 flX9_60 rfl o6 ?_
            refine e_aload_n 2 dX9_make_87 rfl ?_
            refine e_getR dX9_make_88 flX9_20 rfl o6 ?_
            refine e_iload_n 4 dX9_make_91 rfl ?_
            have o10 := h.1
            replace h := h.2
            have o11 := h.1
            replace h := h.2
            refine e_aald (t := 24) dX9_make_92 o10 (by decide) (by decide) o11 ?_
            refine e_iload 0 dX9_make_93 rfl ?_
            refine e_ldc (x := 262143) dX9_make_95 cnX9_165 (by unfold InR; decide) ?_
            refine e_aload_n 2 dX9_make_97 rfl ?_
            refine e_getR dX9_make_98 flX9_20 rfl o6 ?_
            refine e_iload_n 5 dX9_make_101 rfl ?_
            have o12 := h.1
            replace h := h.2
            refine e_aald (t := 24) dX9_make_102 o10 (by decide) (by decide) o12 ?_
            refine e_aload_n 2 dX9_make_103 rfl ?_
            refine e_getR dX9_make_104 flX9_12 rfl o6 ?_
            refine e_getR dX9_make_107 flX9_81 rfl o7 ?_
            have o13 := h.1
            replace h := h.2
            refine i_VI (μ' := MX5_mix) (ci := 4) (r := (R x0 8)) (as := [vR (R (R x0 1) (Int.toNat x2)), vI (vX4_negative I (R (R x0 0) 1) 1), vI 262143, vR (R (R x0 1) (Int.toNat x3)), vR (R (R x0 0) 1)]) (st := []) rfl dX9_make_110 mOKX5_mix ⟨mlX9_166, imX5_mix, seX5_mix⟩ (by decide) (Nat.le_of_ble_eq_true rfl) rfl (Nat.le_of_ble_eq_true rfl) ⟨by decide, rfl⟩ o13 (CI.mono h ?_)
            clear h
            intro S110 I110 R110 x110_ h
            refine e_istore (ls2 := [(5, vI x110_), (6, vI (vX4_negative I (R (R x0 0) 1) 1)), (0, vR x0), (1, vI x1), (2, vI x2), (3, vI x3), (4, vI x4)]) dX9_make_113 (by decide) rfl ?_
            refine e_goto (tgt := 141) dX9_make_115 (by decide) ?_
            refine e_iload 0 dX9_make_141 rfl ?_
            refine e_if_eq (tgt := 155) dX9_make_143 (by decide) (fun c => ?_) (fun c => ?_)
            · replace h := h.1 c
              refine e_iconst dX9_make_155 (by unfold InR; decide) ?_
              exact e_ireturn dX9_make_156 rfl ⟨_, rfl, h⟩
            · replace h := h.2 c
              refine e_aload_n 2 dX9_make_146 rfl ?_
              refine e_iload 6 dX9_make_147 rfl ?_
              have o14 := h.1
              replace h := h.2
              refine i_VI (μ' := MX9_putSpare) (ci := 8) (r := x0) (as := [vI x4]) (st := []) rfl dX9_make_149 mOKX9_putSpare ⟨mlX9_127, imX9_putSpare, seX9_putSpare⟩ (by decide) (Nat.le_of_ble_eq_true rfl) rfl (Nat.le_of_ble_eq_true rfl) ⟨by decide, rfl⟩ o14 (CI.mono h ?_)
              clear h
              intro S149 I149 R149 x149_ h
              refine e_goto (tgt := 156) dX9_make_152 (by decide) ?_
              exact e_ireturn dX9_make_156 rfl ⟨_, rfl, h⟩
        · replace h := h.2 c
          refine e_aload_n 1 dX9_make_31 rfl ?_
          have o15 := h.1
          replace h := h.2
          refine e_getR dX9_make_32 flX9_60 rfl o15 ?_
          refine e_aload_n 1 dX9_make_35 rfl ?_
          refine e_getR dX9_make_36 flX9_20 rfl o15 ?_
          refine e_iload_n 3 dX9_make_39 rfl ?_
          have o16 := h.1
          replace h := h.2
          have o17 := h.1
          replace h := h.2
          refine e_aald (t := 24) dX9_make_40 o16 (by decide) (by decide) o17 ?_
          refine e_iconst dX9_make_41 (by unfold InR; decide) ?_
          refine e_ldc (x := 262143) dX9_make_42 cnX9_165 (by unfold InR; decide) ?_
          refine e_aload_n 1 dX9_make_44 rfl ?_
          refine e_getR dX9_make_45 flX9_20 rfl o15 ?_
          refine e_iload_n 4 dX9_make_48 rfl ?_
          have o18 := h.1
          replace h := h.2
          refine e_aald (t := 24) dX9_make_49 o16 (by decide) (by decide) o18 ?_
          refine e_aload_n 1 dX9_make_50 rfl ?_
          refine e_getR dX9_make_51 flX9_12 rfl o15 ?_
          have o19 := h.1
          replace h := h.2
          refine e_getR dX9_make_54 flX9_81 rfl o19 ?_
          have o20 := h.1
          replace h := h.2
          refine i_VI (μ' := MX5_mix) (ci := 4) (r := (R x0 8)) (as := [vR (R (R x0 1) (Int.toNat x2)), vI 1, vI 262143, vR (R (R x0 1) (Int.toNat x3)), vR (R (R x0 0) 1)]) (st := []) rfl dX9_make_57 mOKX5_mix ⟨mlX9_166, imX5_mix, seX5_mix⟩ (by decide) (Nat.le_of_ble_eq_true rfl) rfl (Nat.le_of_ble_eq_true rfl) ⟨by decide, rfl⟩ o20 (CI.mono h ?_)
          clear h
          intro S57 I57 R57 x57_ h
          refine e_istore (ls2 := [(5, vI x57_), (0, vR x0), (1, vI x1), (2, vI x2), (3, vI x3), (4, vI x4)]) dX9_make_60 (by decide) rfl ?_
          refine e_goto (tgt := 141) dX9_make_62 (by decide) ?_
          refine e_iload 0 dX9_make_141 rfl ?_
          refine e_if_eq (tgt := 155) dX9_make_143 (by decide) (fun c => ?_) (fun c => ?_)
          · replace h := h.1 c
            refine e_iconst dX9_make_155 (by unfold InR; decide) ?_
            exact e_ireturn dX9_make_156 rfl ⟨_, rfl, h⟩
          · replace h := h.2 c
            refine e_aload_n 1 dX9_make_146 rfl ?_
            refine e_iload 5 dX9_make_147 rfl ?_
            have o21 := h.1
            replace h := h.2
            refine i_VI (μ' := MX9_putSpare) (ci := 8) (r := x0) (as := [vI x4]) (st := []) rfl dX9_make_149 mOKX9_putSpare ⟨mlX9_127, imX9_putSpare, seX9_putSpare⟩ (by decide) (Nat.le_of_ble_eq_true rfl) rfl (Nat.le_of_ble_eq_true rfl) ⟨by decide, rfl⟩ o21 (CI.mono h ?_)
            clear h
            intro S149 I149 R149 x149_ h
            refine e_goto (tgt := 156) dX9_make_152 (by decide) ?_
            exact e_ireturn dX9_make_156 rfl ⟨_, rfl, h⟩
      · replace h := h.2 c
        refine e_iconst dX9_make_22 (by unfold InR; decide) ?_
        exact e_ireturn dX9_make_23 rfl ⟨_, rfl, h⟩

def vX9_isSet  (x0 : Int) : Int := (if x0 < 0 then 0 else (if 256 ≤ x0 then 0 else 1))
set_option maxRecDepth 100000 in
set_option maxHeartbeats 4000000 in
theorem sX9_isSet {G : Gl} {S : Sh} {I : MI} {R : MR} {Q : Sh → MI → MR → Int → Prop} {x0 : Int} (hq : Q S I R (vX9_isSet x0)) : CI G MX9_isSet [vI x0] S I R Q := by
  show E G MX9_isSet 0 [(0, vI x0)] [] S I R (qI Q)
  unfold vX9_isSet at hq
  refine e_iload_n 0 dX9_isSet_0 rfl ?_
  refine e_if_lt (tgt := 15) dX9_isSet_1 (by decide) (fun c => ?_) (fun c => ?_)
  · rw [if_pos c] at hq
    refine e_iconst dX9_isSet_15 (by unfold InR; decide) ?_
    exact e_zreturn dX9_isSet_16 rfl (by decide) ⟨_, rfl, hq⟩
  · rw [if_neg c] at hq
    refine e_iload_n 0 dX9_isSet_4 rfl ?_
    refine e_sipush (x := 256) dX9_isSet_5 ⟨by decide +kernel, by unfold InR; decide⟩ ?_
    refine e_icmp_ge (tgt := 15) dX9_isSet_8 (by decide) (fun c => ?_) (fun c => ?_)
    · rw [if_pos c] at hq
      refine e_iconst dX9_isSet_15 (by unfold InR; decide) ?_
      exact e_zreturn dX9_isSet_16 rfl (by decide) ⟨_, rfl, hq⟩
    · rw [if_neg c] at hq
      refine e_iconst dX9_isSet_11 (by unfold InR; decide) ?_
      refine e_goto (tgt := 16) dX9_isSet_12 (by decide) ?_
      exact e_zreturn dX9_isSet_16 rfl (by decide) ⟨_, rfl, hq⟩

def LX9_held_4 (G : Gl) (x0 : Nat) (x1 : Int) (x2 : Int) (x3 : Int) (S : Sh) (I : MI) (R : MR) (Q : Sh → MI → MR → Int → Prop) : Prop := E G MX9_held 4 [(0, vR x0), (1, vI x1), (2, vI x2), (3, vI x3)] [] S I R (qI Q)
set_option maxRecDepth 100000 in
set_option maxHeartbeats 4000000 in
theorem bX9_held {G : Gl} {S : Sh} {I : MI} {R : MR} {Q : Sh → MI → MR → Int → Prop} {x0 : Nat} {x1 : Int} (h : LX9_held_4 G x0 x1 0 0 S I R Q) : CI G MX9_held [vR x0, vI x1] S I R Q := by
  show E G MX9_held 0 [(0, vR x0), (1, vI x1)] [] S I R (qI Q)
  refine e_iconst dX9_held_0 (by unfold InR; decide) ?_
  refine e_istore_n (ls2 := [(2, vI 0), (0, vR x0), (1, vI x1)]) dX9_held_1 (by decide) rfl ?_
  refine e_iconst dX9_held_2 (by unfold InR; decide) ?_
  refine e_istore_n (ls2 := [(3, vI 0), (2, vI 0), (0, vR x0), (1, vI x1)]) dX9_held_3 (by decide) rfl ?_
  exact e_sub (ls2 := [(0, vR x0), (1, vI x1), (2, vI 0), (3, vI 0)]) [2, 3, 1, 0] rfl h
set_option maxRecDepth 100000 in
set_option maxHeartbeats 4000000 in
theorem bX9_held_4 {G : Gl} {S : Sh} {I : MI} {R : MR} {Q : Sh → MI → MR → Int → Prop} {x0 : Nat} {x1 : Int} {x2 : Int} {x3 : Int} (h : ((8 ≤ x3 → Q S I R x2) ∧ (¬ (8 ≤ x3) → (((iand (ishr x1 x3) 1) ≠ 1 → LX9_held_4 G x0 x1 x2 (w32 (x3 + 1)) S I R Q) ∧ (¬ ((iand (ishr x1 x3) 1) ≠ 1) → (sT S x0 = 9 ∧ (sT S (R x0 1) = 24 ∧ (((0 : Int) ≤ x3 ∧ x3 < (sL S (R x0 1) : Int)) ∧ (sT S (R (R x0 1) (Int.toNat x3)) = 5 ∧ (((I (R (R x0 1) (Int.toNat x3)) 2) ≤ 0 → LX9_held_4 G x0 x1 x2 (w32 (x3 + 1)) S I R Q) ∧ (¬ ((I (R (R x0 1) (Int.toNat x3)) 2) ≤ 0) → LX9_held_4 G x0 x1 (ior x2 (ishl 1 x3)) (w32 (x3 + 1)) S I R Q))))))))))) : LX9_held_4 G x0 x1 x2 x3 S I R Q := by
  show E G MX9_held 4 [(0, vR x0), (1, vI x1), (2, vI x2), (3, vI x3)] [] S I R (qI Q)
  refine e_iload_n 3 dX9_held_4 rfl ?_
  refine e_bipush (x := 8) dX9_held_5 ⟨by decide +kernel, by unfold InR; decide⟩ ?_
  refine e_icmp_ge (tgt := 43) dX9_held_7 (by decide) (fun c => ?_) (fun c => ?_)
  · replace h := h.1 c
    refine e_iload_n 2 dX9_held_43 rfl ?_
    exact e_ireturn dX9_held_44 rfl ⟨_, rfl, h⟩
  · replace h := h.2 c
    refine e_iload_n 1 dX9_held_10 rfl ?_
    refine e_iload_n 3 dX9_held_11 rfl ?_
    refine e_ishr dX9_held_12 ?_
    refine e_iconst dX9_held_13 (by unfold InR; decide) ?_
    refine e_iand dX9_held_14 ?_
    refine e_iconst dX9_held_15 (by unfold InR; decide) ?_
    refine e_icmp_ne (tgt := 37) dX9_held_16 (by decide) (fun c => ?_) (fun c => ?_)
    · replace h := h.1 c
      refine e_iinc (ls2 := [(3, vI (w32 (x3 + 1))), (0, vR x0), (1, vI x1), (2, vI x2)]) 3 dX9_held_37 rfl (by decide) rfl ?_
      refine e_goto (tgt := 4) dX9_held_40 (by decide) ?_
      exact e_sub (ls2 := [(0, vR x0), (1, vI x1), (2, vI x2), (3, vI (w32 (x3 + 1)))]) [1, 2, 3, 0] rfl h
    · replace h := h.2 c
      refine e_aload_n 0 dX9_held_19 rfl ?_
      have o1 := h.1
      replace h := h.2
      refine e_getR dX9_held_20 flX9_20 rfl o1 ?_
      refine e_iload_n 3 dX9_held_23 rfl ?_
      have o2 := h.1
      replace h := h.2
      have o3 := h.1
      replace h := h.2
      refine e_aald (t := 24) dX9_held_24 o2 (by decide) (by decide) o3 ?_
      have o4 := h.1
      replace h := h.2
      refine e_getI dX9_held_25 flX9_142 rfl o4 ?_
      refine e_if_le (tgt := 37) dX9_held_28 (by decide) (fun c => ?_) (fun c => ?_)
      · replace h := h.1 c
        refine e_iinc (ls2 := [(3, vI (w32 (x3 + 1))), (0, vR x0), (1, vI x1), (2, vI x2)]) 3 dX9_held_37 rfl (by decide) rfl ?_
        refine e_goto (tgt := 4) dX9_held_40 (by decide) ?_
        exact e_sub (ls2 := [(0, vR x0), (1, vI x1), (2, vI x2), (3, vI (w32 (x3 + 1)))]) [1, 2, 3, 0] rfl h
      · replace h := h.2 c
        refine e_iload_n 2 dX9_held_31 rfl ?_
        refine e_iconst dX9_held_32 (by unfold InR; decide) ?_
        refine e_iload_n 3 dX9_held_33 rfl ?_
        refine e_ishl dX9_held_34 ?_
        refine e_ior dX9_held_35 ?_
        refine e_istore_n (ls2 := [(2, vI (ior x2 (ishl 1 x3))), (0, vR x0), (1, vI x1), (3, vI x3)]) dX9_held_36 (by decide) rfl ?_
        refine e_iinc (ls2 := [(3, vI (w32 (x3 + 1))), (2, vI (ior x2 (ishl 1 x3))), (0, vR x0), (1, vI x1)]) 3 dX9_held_37 rfl (by decide) rfl ?_
        refine e_goto (tgt := 4) dX9_held_40 (by decide) ?_
        exact e_sub (ls2 := [(0, vR x0), (1, vI x1), (2, vI (ior x2 (ishl 1 x3))), (3, vI (w32 (x3 + 1)))]) [2, 3, 1, 0] rfl h

set_option maxRecDepth 100000 in
set_option maxHeartbeats 4000000 in
theorem bX9_weak {G : Gl} {S : Sh} {I : MI} {R : MR} {Q : Sh → MI → MR → Int → Prop} {x0 : Nat} {x1 : Int} {x2 : Int} (h : (((vX9_isSlot x1) = 0 → Q S I R (-1)) ∧ (¬ ((vX9_isSlot x1) = 0) → (((vX9_isSet x2) ≠ 0 → (sT S x0 = 9 ∧ (CI G MX9_held [vR x0, vI x2] S I R (fun S27 I27 R27 x27_ => (sT S27 x0 = 9 ∧ (sT S27 (R27 x0 0) = 6 ∧ (sT S27 (R x0 4) = 1 ∧ (CI G MX0_divide [vR (R x0 4), vR (R x0 1), vI x1, vI x27_, vR (R27 (R27 x0 0) 1)] S27 I27 R27 (fun S37 I37 R37 x37_ => Q S37 I37 R37 x37_))))))))) ∧ (¬ ((vX9_isSet x2) ≠ 0) → Q S I R (-1)))))) : CI G MX9_weak [vR x0, vI x1, vI x2] S I R Q := by
  show E G MX9_weak 0 [(0, vR x0), (1, vI x1), (2, vI x2)] [] S I R (qI Q)
  refine e_iload_n 1 dX9_weak_0 rfl ?_
  refine i_SI (μ' := MX9_isSlot) (as := [vI x1]) (st := []) rfl dX9_weak_1 mOKX9_isSlot ⟨mlX9_111, stX9_isSlot⟩ (by decide) (Nat.le_of_ble_eq_true rfl) rfl (Nat.le_of_ble_eq_true rfl) (sX9_isSlot ?_)
  refine e_if_eq (tgt := 14) dX9_weak_4 (by decide) (fun c => ?_) (fun c => ?_)
  · replace h := h.1 c
    refine e_iconst dX9_weak_14 (by unfold InR; decide) ?_
    exact e_ireturn dX9_weak_15 rfl ⟨_, rfl, h⟩
  · replace h := h.2 c
    refine e_iload_n 2 dX9_weak_7 rfl ?_
    refine i_SI (μ' := MX9_isSet) (as := [vI x2]) (st := []) rfl dX9_weak_8 mOKX9_isSet ⟨mlX9_184, stX9_isSet⟩ (by decide) (Nat.le_of_ble_eq_true rfl) rfl (Nat.le_of_ble_eq_true rfl) (sX9_isSet ?_)
    refine e_if_ne (tgt := 16) dX9_weak_11 (by decide) (fun c => ?_) (fun c => ?_)
    · replace h := h.1 c
      refine e_aload_n 0 dX9_weak_16 rfl ?_
      have o1 := h.1
      replace h := h.2
      refine e_getR dX9_weak_17 flX9_41 rfl o1 ?_
      refine e_aload_n 0 dX9_weak_20 rfl ?_
      refine e_getR dX9_weak_21 flX9_20 rfl o1 ?_
      refine e_iload_n 1 dX9_weak_24 rfl ?_
      refine e_aload_n 0 dX9_weak_25 rfl ?_
      refine e_iload_n 2 dX9_weak_26 rfl ?_
      refine i_VI (μ' := MX9_held) (ci := 8) (r := x0) (as := [vI x2]) (st := [vI x1, vR (R x0 1), vR (R x0 4)]) rfl dX9_weak_27 mOKX9_held ⟨mlX9_187, imX9_held, seX9_held⟩ (by decide) (Nat.le_of_ble_eq_true rfl) rfl (Nat.le_of_ble_eq_true rfl) ⟨by decide, rfl⟩ o1 (CI.mono h ?_)
      clear h
      intro S27 I27 R27 x27_ h
      refine e_aload_n 0 dX9_weak_30 rfl ?_
      have o2 := h.1
      replace h := h.2
      refine e_getR dX9_weak_31 flX9_12 rfl o2 ?_
      have o3 := h.1
      replace h := h.2
      refine e_getR dX9_weak_34 flX9_81 rfl o3 ?_
      have o4 := h.1
      replace h := h.2
      refine i_VI (μ' := MX0_divide) (ci := 0) (r := (R x0 4)) (as := [vR (R x0 1), vI x1, vI x27_, vR (R27 (R27 x0 0) 1)]) (st := []) rfl dX9_weak_37 mOKX0_divide ⟨mlX9_190, imX0_divide, seX0_divide⟩ (by decide) (Nat.le_of_ble_eq_true rfl) rfl (Nat.le_of_ble_eq_true rfl) ⟨by decide, rfl⟩ o4 (CI.mono h ?_)
      clear h
      intro S37 I37 R37 x37_ h
      exact e_ireturn dX9_weak_40 rfl ⟨_, rfl, h⟩
    · replace h := h.2 c
      refine e_iconst dX9_weak_14 (by unfold InR; decide) ?_
      exact e_ireturn dX9_weak_15 rfl ⟨_, rfl, h⟩

set_option maxRecDepth 100000 in
set_option maxHeartbeats 4000000 in
theorem bX9_kept {G : Gl} {S : Sh} {I : MI} {R : MR} {Q : Sh → MI → MR → Int → Prop} {x0 : Nat} {x1 : Int} {x2 : Int} (h : (sT S x0 = 9 ∧ (sT S (R x0 4) = 1 ∧ ((pX0_keptOne S I R (R x0 4) x1) ∧ (((vX0_keptOne I R (R x0 4) x1) = 0 → Q S I R (-1)) ∧ (¬ ((vX0_keptOne I R (R x0 4) x1) = 0) → (((vX9_isSlot x2) ≠ 0 → (sT S (R x0 8) = 5 ∧ (CV G MX5_become [vR (R x0 8), vR (vX0_keptOne I R (R x0 4) x1)] S I R (fun S27 I27 R27 => (sT S27 x0 = 9 ∧ (CI G MX9_putSpare [vR x0, vI x2] S27 I27 R27 (fun S32 I32 R32 x32_ => Q S32 I32 R32 x32_))))))) ∧ (¬ ((vX9_isSlot x2) ≠ 0) → Q S I R (-1))))))))) : CI G MX9_kept [vR x0, vI x1, vI x2] S I R Q := by
  show E G MX9_kept 0 [(0, vR x0), (1, vI x1), (2, vI x2)] [] S I R (qI Q)
  refine e_aload_n 0 dX9_kept_0 rfl ?_
  have o1 := h.1
  replace h := h.2
  refine e_getR dX9_kept_1 flX9_41 rfl o1 ?_
  refine e_iload_n 1 dX9_kept_4 rfl ?_
  have o2 := h.1
  replace h := h.2
  have o3 := h.1
  replace h := h.2
  refine i_VR (μ' := MX0_keptOne) (ci := 0) (r := (R x0 4)) (as := [vI x1]) (st := []) rfl dX9_kept_5 mOKX0_keptOne ⟨mlX9_194, imX0_keptOne, seX0_keptOne⟩ (by decide) (Nat.le_of_ble_eq_true rfl) rfl (Nat.le_of_ble_eq_true rfl) ⟨by decide, rfl⟩ o2 (sX0_keptOne o3 ?_)
  refine e_astore_n (ls2 := [(3, vR (vX0_keptOne I R (R x0 4) x1)), (0, vR x0), (1, vI x1), (2, vI x2)]) dX9_kept_8 (by decide) rfl ?_
  refine e_aload_n 0 dX9_kept_9 rfl ?_
  refine e_ifnull (tgt := 20) dX9_kept_10 (by decide) (fun c => ?_) (fun c => ?_)
  · replace h := h.1 c
    refine e_iconst dX9_kept_20 (by unfold InR; decide) ?_
    exact e_ireturn dX9_kept_21 rfl ⟨_, rfl, h⟩
  · replace h := h.2 c
    refine e_iload_n 3 dX9_kept_13 rfl ?_
    refine i_SI (μ' := MX9_isSlot) (as := [vI x2]) (st := []) rfl dX9_kept_14 mOKX9_isSlot ⟨mlX9_111, stX9_isSlot⟩ (by decide) (Nat.le_of_ble_eq_true rfl) rfl (Nat.le_of_ble_eq_true rfl) (sX9_isSlot ?_)
    refine e_if_ne (tgt := 22) dX9_kept_17 (by decide) (fun c => ?_) (fun c => ?_)
    · replace h := h.1 c
      refine e_aload_n 1 dX9_kept_22 rfl ?_
      refine e_getR dX9_kept_23 flX9_60 rfl o1 ?_
      refine e_aload_n 0 dX9_kept_26 rfl ?_
      have o4 := h.1
      replace h := h.2
      refine i_VV (μ' := MX5_become) (ci := 4) (r := (R x0 8)) (as := [vR (vX0_keptOne I R (R x0 4) x1)]) (st := []) rfl dX9_kept_27 mOKX5_become ⟨mlX9_123, imX5_become, seX5_become⟩ (by decide) (Nat.le_of_ble_eq_true rfl) rfl (Nat.le_of_ble_eq_true rfl) ⟨by decide, rfl⟩ o4 (CV.mono h ?_)
      clear h
      intro S27 I27 R27 h
      refine e_aload_n 1 dX9_kept_30 rfl ?_
      refine e_iload_n 3 dX9_kept_31 rfl ?_
      have o5 := h.1
      replace h := h.2
      refine i_VI (μ' := MX9_putSpare) (ci := 8) (r := x0) (as := [vI x2]) (st := []) rfl dX9_kept_32 mOKX9_putSpare ⟨mlX9_127, imX9_putSpare, seX9_putSpare⟩ (by decide) (Nat.le_of_ble_eq_true rfl) rfl (Nat.le_of_ble_eq_true rfl) ⟨by decide, rfl⟩ o5 (CI.mono h ?_)
      clear h
      intro S32 I32 R32 x32_ h
      exact e_ireturn dX9_kept_35 rfl ⟨_, rfl, h⟩
    · replace h := h.2 c
      refine e_iconst dX9_kept_20 (by unfold InR; decide) ?_
      exact e_ireturn dX9_kept_21 rfl ⟨_, rfl, h⟩

def vX9_step (I : MI) (R : MR) (x0 : Nat) (x1 : Int) (x2 : Int) : Int := (if (I (R x0 4) 0) ≠ 0 then (if x1 ≠ (-1) then (vX0_tellStep I R (R x0 4) x1 x2) else (vX0_tellWhole I (R x0 4) x2)) else (-1))
def pX9_step (S : Sh) (I : MI) (R : MR) (x0 : Nat) (x1 : Int) (x2 : Int) : Prop := (sT S x0 = 9 ∧ (sT S (R x0 4) = 1 ∧ (((I (R x0 4) 0) ≠ 0 → ((x1 ≠ (-1) → ((pX0_tellStep S I R (R x0 4) x1 x2) ∧ True)) ∧ (¬ (x1 ≠ (-1)) → ((pX0_tellWhole S (R x0 4) x2) ∧ True)))) ∧ (¬ ((I (R x0 4) 0) ≠ 0) → True))))
set_option maxRecDepth 100000 in
set_option maxHeartbeats 4000000 in
theorem sX9_step {G : Gl} {S : Sh} {I : MI} {R : MR} {Q : Sh → MI → MR → Int → Prop} {x0 : Nat} {x1 : Int} {x2 : Int} (hp : pX9_step S I R x0 x1 x2) (hq : Q S I R (vX9_step I R x0 x1 x2)) : CI G MX9_step [vR x0, vI x1, vI x2] S I R Q := by
  show E G MX9_step 0 [(0, vR x0), (1, vI x1), (2, vI x2)] [] S I R (qI Q)
  unfold vX9_step at hq
  unfold pX9_step at hp
  refine e_aload_n 0 dX9_step_0 rfl ?_
  have o1 := hp.1
  replace hp := hp.2
  refine e_getR dX9_step_1 flX9_41 rfl o1 ?_
  have o2 := hp.1
  replace hp := hp.2
  refine e_getI dX9_step_4 flX9_198 rfl o2 ?_
  refine e_if_ne (tgt := 12) dX9_step_7 (by decide) (fun c => ?_) (fun c => ?_)
  · rw [if_pos c] at hq
    replace hp := hp.1 c
    refine e_iload_n 1 dX9_step_12 rfl ?_
    refine e_iconst dX9_step_13 (by unfold InR; decide) ?_
    refine e_icmp_ne (tgt := 28) dX9_step_14 (by decide) (fun c => ?_) (fun c => ?_)
    · rw [if_pos c] at hq
      replace hp := hp.1 c
      refine e_aload_n 0 dX9_step_28 rfl ?_
      refine e_getR dX9_step_29 flX9_41 rfl o1 ?_
      refine e_iload_n 1 dX9_step_32 rfl ?_
      refine e_iload_n 2 dX9_step_33 rfl ?_
      have o3 := hp.1
      replace hp := hp.2
      refine i_VI (μ' := MX0_tellStep) (ci := 0) (r := (R x0 4)) (as := [vI x1, vI x2]) (st := []) rfl dX9_step_34 mOKX0_tellStep ⟨mlX9_205, imX0_tellStep, seX0_tellStep⟩ (by decide) (Nat.le_of_ble_eq_true rfl) rfl (Nat.le_of_ble_eq_true rfl) ⟨by decide, rfl⟩ o2 (sX0_tellStep o3 ?_)
      exact e_ireturn dX9_step_37 rfl ⟨_, rfl, hq⟩
    · rw [if_neg c] at hq
      replace hp := hp.2 c
      refine e_aload_n 0 dX9_step_17 rfl ?_
      refine e_getR dX9_step_18 flX9_41 rfl o1 ?_
      refine e_iload_n 2 dX9_step_21 rfl ?_
      have o4 := hp.1
      replace hp := hp.2
      refine i_VI (μ' := MX0_tellWhole) (ci := 0) (r := (R x0 4)) (as := [vI x2]) (st := []) rfl dX9_step_22 mOKX0_tellWhole ⟨mlX9_202, imX0_tellWhole, seX0_tellWhole⟩ (by decide) (Nat.le_of_ble_eq_true rfl) rfl (Nat.le_of_ble_eq_true rfl) ⟨by decide, rfl⟩ o2 (sX0_tellWhole o4 ?_)
      refine e_goto (tgt := 37) dX9_step_25 (by decide) ?_
      exact e_ireturn dX9_step_37 rfl ⟨_, rfl, hq⟩
  · rw [if_neg c] at hq
    replace hp := hp.2 c
    refine e_iconst dX9_step_10 (by unfold InR; decide) ?_
    exact e_ireturn dX9_step_11 rfl ⟨_, rfl, hq⟩

def vX9_isBound (I : MI) (R : MR) (x0 : Nat) (x1 : Int) : Int := (if x1 < 1 then 0 else (if (vX6_bound I (R x0 0)) < x1 then 0 else 1))
def pX9_isBound (S : Sh) (R : MR) (x0 : Nat) (x1 : Int) : Prop := ((x1 < 1 → True) ∧ (¬ (x1 < 1) → (sT S x0 = 9 ∧ (sT S (R x0 0) = 6 ∧ ((pX6_bound S (R x0 0)) ∧ True)))))
set_option maxRecDepth 100000 in
set_option maxHeartbeats 4000000 in
theorem sX9_isBound {G : Gl} {S : Sh} {I : MI} {R : MR} {Q : Sh → MI → MR → Int → Prop} {x0 : Nat} {x1 : Int} (hp : pX9_isBound S R x0 x1) (hq : Q S I R (vX9_isBound I R x0 x1)) : CI G MX9_isBound [vR x0, vI x1] S I R Q := by
  show E G MX9_isBound 0 [(0, vR x0), (1, vI x1)] [] S I R (qI Q)
  unfold vX9_isBound at hq
  unfold pX9_isBound at hp
  refine e_iload_n 1 dX9_isBound_0 rfl ?_
  refine e_iconst dX9_isBound_1 (by unfold InR; decide) ?_
  refine e_icmp_lt (tgt := 20) dX9_isBound_2 (by decide) (fun c => ?_) (fun c => ?_)
  · rw [if_pos c] at hq
    replace hp := hp.1 c
    refine e_iconst dX9_isBound_20 (by unfold InR; decide) ?_
    exact e_zreturn dX9_isBound_21 rfl (by decide) ⟨_, rfl, hq⟩
  · rw [if_neg c] at hq
    replace hp := hp.2 c
    refine e_iload_n 1 dX9_isBound_5 rfl ?_
    refine e_aload_n 0 dX9_isBound_6 rfl ?_
    have o1 := hp.1
    replace hp := hp.2
    refine e_getR dX9_isBound_7 flX9_12 rfl o1 ?_
    have o2 := hp.1
    replace hp := hp.2
    have o3 := hp.1
    replace hp := hp.2
    refine i_VI (μ' := MX6_bound) (ci := 5) (r := (R x0 0)) (as := []) (st := [vI x1]) rfl dX9_isBound_10 mOKX6_bound ⟨mlX9_250, imX6_bound, seX6_bound⟩ (by decide) (Nat.le_of_ble_eq_true rfl) rfl (Nat.le_of_ble_eq_true rfl) ⟨by decide, rfl⟩ o2 (sX6_bound o3 ?_)
    refine e_icmp_gt (tgt := 20) dX9_isBound_13 (by decide) (fun c => ?_) (fun c => ?_)
    · rw [if_pos c] at hq
      refine e_iconst dX9_isBound_20 (by unfold InR; decide) ?_
      exact e_zreturn dX9_isBound_21 rfl (by decide) ⟨_, rfl, hq⟩
    · rw [if_neg c] at hq
      refine e_iconst dX9_isBound_16 (by unfold InR; decide) ?_
      refine e_goto (tgt := 21) dX9_isBound_17 (by decide) ?_
      exact e_zreturn dX9_isBound_21 rfl (by decide) ⟨_, rfl, hq⟩

set_option maxRecDepth 100000 in
set_option maxHeartbeats 4000000 in
theorem bX9_oldestIdeal {G : Gl} {S : Sh} {I : MI} {R : MR} {Q : Sh → MI → MR → Nat → Prop} {x0 : Nat} (h : (sT S x0 = 9 ∧ (sT S (R x0 5) = 26 ∧ (((0 : Int) ≤ (I x0 7) ∧ (I x0 7) < (sL S (R x0 5) : Int)) ∧ ((4 ≤ (w32 ((I x0 7) + 1)) → (∀ I31, I31 = up2 I x0 7 0 → (sT S (R (R x0 5) (Int.toNat (I x0 7))) = 3 ∧ (∀ I36, I36 = up2 I31 (R (R x0 5) (Int.toNat (I x0 7))) 0 (-1) → Q S I36 R (R (R x0 5) (Int.toNat (I x0 7))))))) ∧ (¬ (4 ≤ (w32 ((I x0 7) + 1))) → (∀ I31, I31 = up2 I x0 7 (w32 ((I x0 7) + 1)) → (sT S (R (R x0 5) (Int.toNat (I x0 7))) = 3 ∧ (∀ I36, I36 = up2 I31 (R (R x0 5) (Int.toNat (I x0 7))) 0 (-1) → Q S I36 R (R (R x0 5) (Int.toNat (I x0 7)))))))))))) : CR G MX9_oldestIdeal [vR x0] S I R Q := by
  show E G MX9_oldestIdeal 0 [(0, vR x0)] [] S I R (qR Q)
  refine e_aload_n 0 dX9_oldestIdeal_0 rfl ?_
  have o1 := h.1
  replace h := h.2
  refine e_getR dX9_oldestIdeal_1 flX9_47 rfl o1 ?_
  refine e_aload_n 0 dX9_oldestIdeal_4 rfl ?_
  refine e_getI dX9_oldestIdeal_5 flX9_265 rfl o1 ?_
  have o2 := h.1
  replace h := h.2
  have o3 := h.1
  replace h := h.2
  refine e_aald (t := 26) dX9_oldestIdeal_8 o2 (by decide) (by decide) o3 ?_
  refine e_astore_n (ls2 := [(1, vR (R (R x0 5) (Int.toNat (I x0 7)))), (0, vR x0)]) dX9_oldestIdeal_9 (by decide) rfl ?_
  refine e_aload_n 1 dX9_oldestIdeal_10 rfl ?_
  refine e_aload_n 1 dX9_oldestIdeal_11 rfl ?_
  refine e_getI dX9_oldestIdeal_12 flX9_265 rfl o1 ?_
  refine e_iconst dX9_oldestIdeal_15 (by unfold InR; decide) ?_
  refine e_iadd dX9_oldestIdeal_16 ?_
  refine e_iconst dX9_oldestIdeal_17 (by unfold InR; decide) ?_
  refine e_icmp_ge (tgt := 30) dX9_oldestIdeal_18 (by decide) (fun c => ?_) (fun c => ?_)
  · replace h := h.1 c
    refine e_iconst dX9_oldestIdeal_30 (by unfold InR; decide) ?_
    obtain ⟨I31, eI31⟩ : ∃ z : MI, z = up2 I x0 7 0 := ⟨_, rfl⟩
    replace h := h I31 eI31
    refine e_putI dX9_oldestIdeal_31 flX9_265 rfl (Or.inl rfl) o1 (eqI eI31 ?_)
    refine e_aload_n 0 dX9_oldestIdeal_34 rfl ?_
    refine e_iconst dX9_oldestIdeal_35 (by unfold InR; decide) ?_
    have o4 := h.1
    replace h := h.2
    obtain ⟨I36, eI36⟩ : ∃ z : MI, z = up2 I31 (R (R x0 5) (Int.toNat (I x0 7))) 0 (-1) := ⟨_, rfl⟩
    replace h := h I36 eI36
    refine e_putI dX9_oldestIdeal_36 flX9_264 rfl (Or.inl rfl) o4 (eqI eI36 ?_)
    refine e_aload_n 0 dX9_oldestIdeal_39 rfl ?_
    exact e_areturn (C := "") dX9_oldestIdeal_40 ⟨_, rfl⟩ ⟨_, rfl, h⟩
  · replace h := h.2 c
    refine e_aload_n 1 dX9_oldestIdeal_21 rfl ?_
    refine e_getI dX9_oldestIdeal_22 flX9_265 rfl o1 ?_
    refine e_iconst dX9_oldestIdeal_25 (by unfold InR; decide) ?_
    refine e_iadd dX9_oldestIdeal_26 ?_
    refine e_goto (tgt := 31) dX9_oldestIdeal_27 (by decide) ?_
    obtain ⟨I31, eI31⟩ : ∃ z : MI, z = up2 I x0 7 (w32 ((I x0 7) + 1)) := ⟨_, rfl⟩
    replace h := h I31 eI31
    refine e_putI dX9_oldestIdeal_31 flX9_265 rfl (Or.inl rfl) o1 (eqI eI31 ?_)
    refine e_aload_n 0 dX9_oldestIdeal_34 rfl ?_
    refine e_iconst dX9_oldestIdeal_35 (by unfold InR; decide) ?_
    have o5 := h.1
    replace h := h.2
    obtain ⟨I36, eI36⟩ : ∃ z : MI, z = up2 I31 (R (R x0 5) (Int.toNat (I x0 7))) 0 (-1) := ⟨_, rfl⟩
    replace h := h I36 eI36
    refine e_putI dX9_oldestIdeal_36 flX9_264 rfl (Or.inl rfl) o5 (eqI eI36 ?_)
    refine e_aload_n 0 dX9_oldestIdeal_39 rfl ?_
    exact e_areturn (C := "") dX9_oldestIdeal_40 ⟨_, rfl⟩ ⟨_, rfl, h⟩

def LX9_idealOf_18 (G : Gl) (x0 : Nat) (x2 : Int) (x3 : Nat) (x4 : Int) (x5 : Int) (S : Sh) (I : MI) (R : MR) (Q : Sh → MI → MR → Nat → Prop) : Prop := E G MX9_idealOf 18 [(0, vR x0), (2, vI x2), (3, vR x3), (4, vI x4), (5, vI x5)] [] S I R (qR Q)
set_option maxRecDepth 100000 in
set_option maxHeartbeats 4000000 in
theorem bX9_idealOf {G : Gl} {S : Sh} {I : MI} {R : MR} {Q : Sh → MI → MR → Nat → Prop} {x0 : Nat} {x1 : Int} (h : (sT S x0 = 9 ∧ (CI G MX9_held [vR x0, vI x1] S I R (fun S2 I2 R2 x2_ => (sT S2 x0 = 9 ∧ (21 ≤ sT S2 (R2 x0 5) ∧ LX9_idealOf_18 G x0 x2_ (R2 x0 5) (sL S2 (R2 x0 5) : Int) 0 S2 I2 R2 Q)))))) : CR G MX9_idealOf [vR x0, vI x1] S I R Q := by
  show E G MX9_idealOf 0 [(0, vR x0), (1, vI x1)] [] S I R (qR Q)
  refine e_aload_n 0 dX9_idealOf_0 rfl ?_
  refine e_iload_n 1 dX9_idealOf_1 rfl ?_
  have o1 := h.1
  replace h := h.2
  refine i_VI (μ' := MX9_held) (ci := 8) (r := x0) (as := [vI x1]) (st := []) rfl dX9_idealOf_2 mOKX9_held ⟨mlX9_187, imX9_held, seX9_held⟩ (by decide) (Nat.le_of_ble_eq_true rfl) rfl (Nat.le_of_ble_eq_true rfl) ⟨by decide, rfl⟩ o1 (CI.mono h ?_)
  clear h
  intro S2 I2 R2 x2_ h
  refine e_istore_n (ls2 := [(2, vI x2_), (0, vR x0), (1, vI x1)]) dX9_idealOf_5 (by decide) rfl ?_
  refine e_aload_n 1 dX9_idealOf_6 rfl ?_
  have o2 := h.1
  replace h := h.2
  refine e_getR dX9_idealOf_7 flX9_47 rfl o2 ?_
  refine e_astore_n (ls2 := [(3, vR (R2 x0 5)), (2, vI x2_), (0, vR x0), (1, vI x1)]) dX9_idealOf_10 (by decide) rfl ?_
  refine e_aload_n 0 dX9_idealOf_11 rfl ?_
  have o3 := h.1
  replace h := h.2
  refine e_alen dX9_idealOf_12 o3 ?_
  refine e_istore (ls2 := [(4, vI (sL S2 (R2 x0 5) : Int)), (3, vR (R2 x0 5)), (2, vI x2_), (0, vR x0), (1, vI x1)]) dX9_idealOf_13 (by decide) rfl ?_
  refine e_iconst dX9_idealOf_15 (by unfold InR; decide) ?_
  refine e_istore (ls2 := [(5, vI 0), (4, vI (sL S2 (R2 x0 5) : Int)), (3, vR (R2 x0 5)), (2, vI x2_), (0, vR x0), (1, vI x1)]) dX9_idealOf_16 (by decide) rfl ?_
  exact e_sub (ls2 := [(0, vR x0), (2, vI x2_), (3, vR (R2 x0 5)), (4, vI (sL S2 (R2 x0 5) : Int)), (5, vI 0)]) [4, 3, 2, 1, 0] rfl h
set_option maxRecDepth 100000 in
set_option maxHeartbeats 4000000 in
theorem bX9_idealOf_18 {G : Gl} {S : Sh} {I : MI} {R : MR} {Q : Sh → MI → MR → Nat → Prop} {x0 : Nat} {x2 : Int} {x3 : Nat} {x4 : Int} {x5 : Int} (h : ((x4 ≤ x5 → (sT S x0 = 9 ∧ (CR G MX9_oldestIdeal [vR x0] S I R (fun S50 I50 R50 x50_ => (sT S50 x0 = 9 ∧ (sT S50 x50_ = 3 ∧ (CV G MX2_build [vR x50_, vR (R50 x0 1), vI x2, vR (R50 x0 0)] S50 I50 R50 (fun S64 I64 R64 => (sT S64 x50_ = 3 ∧ (∀ I69, I69 = up2 I64 x50_ 0 x2 → Q S64 I69 R64 x50_)))))))))) ∧ (¬ (x4 ≤ x5) → (sT S x3 = 26 ∧ (((0 : Int) ≤ x5 ∧ x5 < (sL S x3 : Int)) ∧ (sT S (R x3 (Int.toNat x5)) = 3 ∧ (((I (R x3 (Int.toNat x5)) 0) ≠ x2 → LX9_idealOf_18 G x0 x2 x3 x4 (w32 (x5 + 1)) S I R Q) ∧ (¬ ((I (R x3 (Int.toNat x5)) 0) ≠ x2) → Q S I R (R x3 (Int.toNat x5)))))))))) : LX9_idealOf_18 G x0 x2 x3 x4 x5 S I R Q := by
  show E G MX9_idealOf 18 [(0, vR x0), (2, vI x2), (3, vR x3), (4, vI x4), (5, vI x5)] [] S I R (qR Q)
  refine e_iload 4 dX9_idealOf_18 rfl ?_
  refine e_iload 3 dX9_idealOf_20 rfl ?_
  refine e_icmp_ge (tgt := 49) dX9_idealOf_22 (by decide) (fun c => ?_) (fun c => ?_)
  · replace h := h.1 c
    refine e_aload_n 0 dX9_idealOf_49 rfl ?_
    have o4 := h.1
    replace h := h.2
    refine i_VR (μ' := MX9_oldestIdeal) (ci := 8) (r := x0) (as := []) (st := []) rfl dX9_idealOf_50 mOKX9_oldestIdeal ⟨mlX9_236, imX9_oldestIdeal, seX9_oldestIdeal⟩ (by decide) (Nat.le_of_ble_eq_true rfl) rfl (Nat.le_of_ble_eq_true rfl) ⟨by decide, rfl⟩ o4 (CR.mono h ?_)
    clear h
    intro S50 I50 R50 x50_ h
    refine e_astore_n (ls2 := [(3, vR x50_), (0, vR x0), (2, vI x2), (4, vI x4), (5, vI x5)]) dX9_idealOf_53 (by decide) rfl ?_
    refine e_aload_n 0 dX9_idealOf_54 rfl ?_
    refine e_aload_n 1 dX9_idealOf_55 rfl ?_
    have o5 := h.1
    replace h := h.2
    refine e_getR dX9_idealOf_56 flX9_20 rfl o5 ?_
    refine e_iload_n 2 dX9_idealOf_59 rfl ?_
    refine e_aload_n 1 dX9_idealOf_60 rfl ?_
    refine e_getR dX9_idealOf_61 flX9_12 rfl o5 ?_
    have o6 := h.1
    replace h := h.2
    refine i_VV (μ' := MX2_build) (ci := 2) (r := x50_) (as := [vR (R50 x0 1), vI x2, vR (R50 x0 0)]) (st := []) rfl dX9_idealOf_64 mOKX2_build ⟨mlX9_240, imX2_build, seX2_build⟩ (by decide) (Nat.le_of_ble_eq_true rfl) rfl (Nat.le_of_ble_eq_true rfl) ⟨by decide, rfl⟩ o6 (CV.mono h ?_)
    clear h
    intro S64 I64 R64 h
    refine e_aload_n 0 dX9_idealOf_67 rfl ?_
    refine e_iload_n 2 dX9_idealOf_68 rfl ?_
    have o7 := h.1
    replace h := h.2
    obtain ⟨I69, eI69⟩ : ∃ z : MI, z = up2 I64 x50_ 0 x2 := ⟨_, rfl⟩
    replace h := h I69 eI69
    refine e_putI dX9_idealOf_69 flX9_264 rfl (Or.inl rfl) o7 (eqI eI69 ?_)
    refine e_aload_n 0 dX9_idealOf_72 rfl ?_
    exact e_areturn (C := "") dX9_idealOf_73 ⟨_, rfl⟩ ⟨_, rfl, h⟩
  · replace h := h.2 c
    refine e_aload_n 2 dX9_idealOf_25 rfl ?_
    refine e_iload 4 dX9_idealOf_26 rfl ?_
    have o8 := h.1
    replace h := h.2
    have o9 := h.1
    replace h := h.2
    refine e_aald (t := 26) dX9_idealOf_28 o8 (by decide) (by decide) o9 ?_
    refine e_astore (ls2 := [(6, vR (R x3 (Int.toNat x5))), (0, vR x0), (2, vI x2), (3, vR x3), (4, vI x4), (5, vI x5)]) dX9_idealOf_29 (by decide) rfl ?_
    refine e_aload 0 dX9_idealOf_31 rfl ?_
    have o10 := h.1
    replace h := h.2
    refine e_getI dX9_idealOf_33 flX9_264 rfl o10 ?_
    refine e_iload_n 2 dX9_idealOf_36 rfl ?_
    refine e_icmp_ne (tgt := 43) dX9_idealOf_37 (by decide) (fun c => ?_) (fun c => ?_)
    · replace h := h.1 c
      refine e_iinc (ls2 := [(5, vI (w32 (x5 + 1))), (6, vR (R x3 (Int.toNat x5))), (0, vR x0), (2, vI x2), (3, vR x3), (4, vI x4)]) 5 dX9_idealOf_43 rfl (by decide) rfl ?_
      refine e_goto (tgt := 18) dX9_idealOf_46 (by decide) ?_
      exact e_sub (ls2 := [(0, vR x0), (2, vI x2), (3, vR x3), (4, vI x4), (5, vI (w32 (x5 + 1)))]) [2, 3, 4, 5, 0] rfl h
    · replace h := h.2 c
      refine e_aload 0 dX9_idealOf_40 rfl ?_
      exact e_areturn (C := "") dX9_idealOf_42 ⟨_, rfl⟩ ⟨_, rfl, h⟩

def LX9_stairs_45 (G : Gl) (x0 : Nat) (x1 : Int) (x2 : Int) (x3 : Int) (y0 : Int) (S : Sh) (I : MI) (R : MR) (Q : Sh → MI → MR → Int → Prop) : Prop := E G MX9_stairs 45 [(0, vR x0), (1, vI x1), (2, vI x2), (3, vI x3)] [vI y0] S I R (qI Q)
set_option maxRecDepth 100000 in
set_option maxHeartbeats 4000000 in
theorem bX9_stairs {G : Gl} {S : Sh} {I : MI} {R : MR} {Q : Sh → MI → MR → Int → Prop} {x0 : Nat} {x1 : Int} {x2 : Int} {x3 : Int} (h : (((vX9_isSet x1) = 0 → Q S I R (-1)) ∧ (¬ ((vX9_isSet x1) = 0) → (sT S x0 = 9 ∧ ((pX9_isBound S R x0 x2) ∧ (((vX9_isBound I R x0 x2) = 0 → Q S I R (-1)) ∧ (¬ ((vX9_isBound I R x0 x2) = 0) → ((x3 < (-1) → Q S I R (-1)) ∧ (¬ (x3 < (-1)) → ((x3 < x2 → ((x3 ≠ (-1) → (sT S (R x0 0) = 6 ∧ (sT S (R (R x0 0) 4) = 21 ∧ (((0 : Int) ≤ x3 ∧ x3 < (sL S (R (R x0 0) 4) : Int)) ∧ LX9_stairs_45 G x0 x1 x2 x3 (I (R (R x0 0) 4) (Int.toNat x3)) S I R Q)))) ∧ (¬ (x3 ≠ (-1)) → LX9_stairs_45 G x0 x1 x2 x3 0 S I R Q))) ∧ (¬ (x3 < x2) → Q S I R (-1)))))))))))) : CI G MX9_stairs [vR x0, vI x1, vI x2, vI x3] S I R Q := by
  show E G MX9_stairs 0 [(0, vR x0), (1, vI x1), (2, vI x2), (3, vI x3)] [] S I R (qI Q)
  refine e_iload_n 1 dX9_stairs_0 rfl ?_
  refine i_SI (μ' := MX9_isSet) (as := [vI x1]) (st := []) rfl dX9_stairs_1 mOKX9_isSet ⟨mlX9_184, stX9_isSet⟩ (by decide) (Nat.le_of_ble_eq_true rfl) rfl (Nat.le_of_ble_eq_true rfl) (sX9_isSet ?_)
  refine e_if_eq (tgt := 25) dX9_stairs_4 (by decide) (fun c => ?_) (fun c => ?_)
  · replace h := h.1 c
    refine e_iconst dX9_stairs_25 (by unfold InR; decide) ?_
    exact e_ireturn dX9_stairs_26 rfl ⟨_, rfl, h⟩
  · replace h := h.2 c
    refine e_aload_n 0 dX9_stairs_7 rfl ?_
    refine e_iload_n 2 dX9_stairs_8 rfl ?_
    have o1 := h.1
    replace h := h.2
    have o2 := h.1
    replace h := h.2
    refine i_VI (μ' := MX9_isBound) (ci := 8) (r := x0) (as := [vI x2]) (st := []) rfl dX9_stairs_9 mOKX9_isBound ⟨mlX9_208, imX9_isBound, seX9_isBound⟩ (by decide) (Nat.le_of_ble_eq_true rfl) rfl (Nat.le_of_ble_eq_true rfl) ⟨by decide, rfl⟩ o1 (sX9_isBound o2 ?_)
    refine e_if_eq (tgt := 25) dX9_stairs_12 (by decide) (fun c => ?_) (fun c => ?_)
    · replace h := h.1 c
      refine e_iconst dX9_stairs_25 (by unfold InR; decide) ?_
      exact e_ireturn dX9_stairs_26 rfl ⟨_, rfl, h⟩
    · replace h := h.2 c
      refine e_iload_n 3 dX9_stairs_15 rfl ?_
      refine e_iconst dX9_stairs_16 (by unfold InR; decide) ?_
      refine e_icmp_lt (tgt := 25) dX9_stairs_17 (by decide) (fun c => ?_) (fun c => ?_)
      · replace h := h.1 c
        refine e_iconst dX9_stairs_25 (by unfold InR; decide) ?_
        exact e_ireturn dX9_stairs_26 rfl ⟨_, rfl, h⟩
      · replace h := h.2 c
        refine e_iload_n 3 dX9_stairs_20 rfl ?_
        refine e_iload_n 2 dX9_stairs_21 rfl ?_
        refine e_icmp_lt (tgt := 27) dX9_stairs_22 (by decide) (fun c => ?_) (fun c => ?_)
        · replace h := h.1 c
          refine e_iload_n 3 dX9_stairs_27 rfl ?_
          refine e_iconst dX9_stairs_28 (by unfold InR; decide) ?_
          refine e_icmp_ne (tgt := 36) dX9_stairs_29 (by decide) (fun c => ?_) (fun c => ?_)
          · replace h := h.1 c
            refine e_aload_n 0 dX9_stairs_36 rfl ?_
            refine e_getR dX9_stairs_37 flX9_12 rfl o1 ?_
            have o3 := h.1
            replace h := h.2
            refine e_getR dX9_stairs_40 flX9_215 rfl o3 ?_
            refine e_iload_n 3 dX9_stairs_43 rfl ?_
            have o4 := h.1
            replace h := h.2
            have o5 := h.1
            replace h := h.2
            refine e_iald dX9_stairs_44 o4 o5 ?_
            exact e_sub (ls2 := [(0, vR x0), (1, vI x1), (2, vI x2), (3, vI x3)]) [0, 1, 2, 3] rfl h
          · replace h := h.2 c
            refine e_iconst dX9_stairs_32 (by unfold InR; decide) ?_
            refine e_goto (tgt := 45) dX9_stairs_33 (by decide) ?_
            exact e_sub (ls2 := [(0, vR x0), (1, vI x1), (2, vI x2), (3, vI x3)]) [0, 1, 2, 3] rfl h
        · replace h := h.2 c
          refine e_iconst dX9_stairs_25 (by unfold InR; decide) ?_
          exact e_ireturn dX9_stairs_26 rfl ⟨_, rfl, h⟩
set_option maxRecDepth 100000 in
set_option maxHeartbeats 4000000 in
theorem bX9_stairs_45 {G : Gl} {S : Sh} {I : MI} {R : MR} {Q : Sh → MI → MR → Int → Prop} {x0 : Nat} {x1 : Int} {x2 : Int} {x3 : Int} {y0 : Int} (h : ((x3 ≠ (-1) → (sT S x0 = 9 ∧ (sT S (R x0 0) = 6 ∧ (sT S (R (R x0 0) 4) = 21 ∧ (((0 : Int) ≤ (w32 (x3 + 1)) ∧ (w32 (x3 + 1)) < (sL S (R (R x0 0) 4) : Int)) ∧ (CR G MX9_idealOf [vR x0, vI x1] S I R (fun S79 I79 R79 x79_ => (sT S79 x79_ = 3 ∧ (CI G MX2_count [vR x79_, vI 0, vI y0, vI (I (R (R x0 0) 4) (Int.toNat (w32 (x3 + 1))))] S79 I79 R79 (fun S87 I87 R87 x87_ => Q S87 I87 R87 x87_)))))))))) ∧ (¬ (x3 ≠ (-1)) → (sT S x0 = 9 ∧ (sT S (R x0 0) = 6 ∧ (sT S (R (R x0 0) 4) = 21 ∧ (((0 : Int) ≤ x2 ∧ x2 < (sL S (R (R x0 0) 4) : Int)) ∧ (CR G MX9_idealOf [vR x0, vI x1] S I R (fun S79 I79 R79 x79_ => (sT S79 x79_ = 3 ∧ (CI G MX2_count [vR x79_, vI 0, vI y0, vI (I (R (R x0 0) 4) (Int.toNat x2))] S79 I79 R79 (fun S87 I87 R87 x87_ => Q S87 I87 R87 x87_)))))))))))) : LX9_stairs_45 G x0 x1 x2 x3 y0 S I R Q := by
  show E G MX9_stairs 45 [(0, vR x0), (1, vI x1), (2, vI x2), (3, vI x3)] [vI y0] S I R (qI Q)
  refine e_istore (ls2 := [(4, vI y0), (0, vR x0), (1, vI x1), (2, vI x2), (3, vI x3)]) dX9_stairs_45 (by decide) rfl ?_
  refine e_iload_n 4 dX9_stairs_47 rfl ?_
  refine e_iconst dX9_stairs_48 (by unfold InR; decide) ?_
  refine e_icmp_ne (tgt := 64) dX9_stairs_49 (by decide) (fun c => ?_) (fun c => ?_)
  · replace h := h.1 c
    refine e_aload_n 1 dX9_stairs_64 rfl ?_
    have o6 := h.1
    replace h := h.2
    refine e_getR dX9_stairs_65 flX9_12 rfl o6 ?_
    have o7 := h.1
    replace h := h.2
    refine e_getR dX9_stairs_68 flX9_215 rfl o7 ?_
    refine e_iload_n 4 dX9_stairs_71 rfl ?_
    refine e_iconst dX9_stairs_72 (by unfold InR; decide) ?_
    refine e_iadd dX9_stairs_73 ?_
    have o8 := h.1
    replace h := h.2
    have o9 := h.1
    replace h := h.2
    refine e_iald dX9_stairs_74 o8 o9 ?_
    refine e_istore (ls2 := [(5, vI (I (R (R x0 0) 4) (Int.toNat (w32 (x3 + 1))))), (4, vI y0), (0, vR x0), (1, vI x1), (2, vI x2), (3, vI x3)]) dX9_stairs_75 (by decide) rfl ?_
    refine e_aload_n 2 dX9_stairs_77 rfl ?_
    refine e_iload_n 3 dX9_stairs_78 rfl ?_
    refine i_VR (μ' := MX9_idealOf) (ci := 8) (r := x0) (as := [vI x1]) (st := []) rfl dX9_stairs_79 mOKX9_idealOf ⟨mlX9_211, imX9_idealOf, seX9_idealOf⟩ (by decide) (Nat.le_of_ble_eq_true rfl) rfl (Nat.le_of_ble_eq_true rfl) ⟨by decide, rfl⟩ o6 (CR.mono h ?_)
    clear h
    intro S79 I79 R79 x79_ h
    refine e_iconst dX9_stairs_82 (by unfold InR; decide) ?_
    refine e_iload 1 dX9_stairs_83 rfl ?_
    refine e_iload 0 dX9_stairs_85 rfl ?_
    have o10 := h.1
    replace h := h.2
    refine i_VI (μ' := MX2_count) (ci := 2) (r := x79_) (as := [vI 0, vI y0, vI (I (R (R x0 0) 4) (Int.toNat (w32 (x3 + 1))))]) (st := []) rfl dX9_stairs_87 mOKX2_count ⟨mlX9_218, imX2_count, seX2_count⟩ (by decide) (Nat.le_of_ble_eq_true rfl) rfl (Nat.le_of_ble_eq_true rfl) ⟨by decide, rfl⟩ o10 (CI.mono h ?_)
    clear h
    intro S87 I87 R87 x87_ h
    exact e_ireturn dX9_stairs_90 rfl ⟨_, rfl, h⟩
  · replace h := h.2 c
    refine e_aload_n 1 dX9_stairs_52 rfl ?_
    have o11 := h.1
    replace h := h.2
    refine e_getR dX9_stairs_53 flX9_12 rfl o11 ?_
    have o12 := h.1
    replace h := h.2
    refine e_getR dX9_stairs_56 flX9_215 rfl o12 ?_
    refine e_iload_n 3 dX9_stairs_59 rfl ?_
    have o13 := h.1
    replace h := h.2
    have o14 := h.1
    replace h := h.2
    refine e_iald dX9_stairs_60 o13 o14 ?_
    refine e_goto (tgt := 75) dX9_stairs_61 (by decide) ?_
    refine e_istore (ls2 := [(5, vI (I (R (R x0 0) 4) (Int.toNat x2))), (4, vI y0), (0, vR x0), (1, vI x1), (2, vI x2), (3, vI x3)]) dX9_stairs_75 (by decide) rfl ?_
    refine e_aload_n 2 dX9_stairs_77 rfl ?_
    refine e_iload_n 3 dX9_stairs_78 rfl ?_
    refine i_VR (μ' := MX9_idealOf) (ci := 8) (r := x0) (as := [vI x1]) (st := []) rfl dX9_stairs_79 mOKX9_idealOf ⟨mlX9_211, imX9_idealOf, seX9_idealOf⟩ (by decide) (Nat.le_of_ble_eq_true rfl) rfl (Nat.le_of_ble_eq_true rfl) ⟨by decide, rfl⟩ o11 (CR.mono h ?_)
    clear h
    intro S79 I79 R79 x79_ h
    refine e_iconst dX9_stairs_82 (by unfold InR; decide) ?_
    refine e_iload 1 dX9_stairs_83 rfl ?_
    refine e_iload 0 dX9_stairs_85 rfl ?_
    have o15 := h.1
    replace h := h.2
    refine i_VI (μ' := MX2_count) (ci := 2) (r := x79_) (as := [vI 0, vI y0, vI (I (R (R x0 0) 4) (Int.toNat x2))]) (st := []) rfl dX9_stairs_87 mOKX2_count ⟨mlX9_218, imX2_count, seX2_count⟩ (by decide) (Nat.le_of_ble_eq_true rfl) rfl (Nat.le_of_ble_eq_true rfl) ⟨by decide, rfl⟩ o15 (CI.mono h ?_)
    clear h
    intro S87 I87 R87 x87_ h
    exact e_ireturn dX9_stairs_90 rfl ⟨_, rfl, h⟩

set_option maxRecDepth 100000 in
set_option maxHeartbeats 4000000 in
theorem bX9_rest {G : Gl} {S : Sh} {I : MI} {R : MR} {Q : Sh → MI → MR → Int → Prop} {x0 : Nat} {x1 : Int} {x2 : Int} {x3 : Int} {x4 : Int} (h : (((vX9_isSlot x1) = 0 → Q S I R (-1)) ∧ (¬ ((vX9_isSlot x1) = 0) → (((vX9_isSet x2) = 0 → Q S I R (-1)) ∧ (¬ ((vX9_isSet x2) = 0) → (sT S x0 = 9 ∧ ((pX9_isBound S R x0 x3) ∧ (((vX9_isBound I R x0 x3) = 0 → Q S I R (-1)) ∧ (¬ ((vX9_isBound I R x0 x3) = 0) → (((vX9_isSlot x4) ≠ 0 → (CR G MX9_idealOf [vR x0, vI x2] S I R (fun S34 I34 R34 x34_ => (sT S34 x0 = 9 ∧ (sT S34 (R34 x0 1) = 24 ∧ (((0 : Int) ≤ x1 ∧ x1 < (sL S34 (R34 x0 1) : Int)) ∧ (sT S34 x34_ = 3 ∧ (CI G MX2_leaveOver [vR x34_, vR (R34 (R34 x0 1) (Int.toNat x1)), vI x3, vR (R34 x0 8), vR (R34 x0 0)] S34 I34 R34 (fun S52 I52 R52 x52_ => ((x52_ = 0 → Q S52 I52 R52 (-1)) ∧ (¬ (x52_ = 0) → (sT S52 x0 = 9 ∧ (CI G MX9_putSpare [vR x0, vI x4] S52 I52 R52 (fun S65 I65 R65 x65_ => Q S65 I65 R65 x65_)))))))))))))) ∧ (¬ ((vX9_isSlot x4) ≠ 0) → Q S I R (-1)))))))))))) : CI G MX9_rest [vR x0, vI x1, vI x2, vI x3, vI x4] S I R Q := by
  show E G MX9_rest 0 [(0, vR x0), (1, vI x1), (2, vI x2), (3, vI x3), (4, vI x4)] [] S I R (qI Q)
  refine e_iload_n 1 dX9_rest_0 rfl ?_
  refine i_SI (μ' := MX9_isSlot) (as := [vI x1]) (st := []) rfl dX9_rest_1 mOKX9_isSlot ⟨mlX9_111, stX9_isSlot⟩ (by decide) (Nat.le_of_ble_eq_true rfl) rfl (Nat.le_of_ble_eq_true rfl) (sX9_isSlot ?_)
  refine e_if_eq (tgt := 30) dX9_rest_4 (by decide) (fun c => ?_) (fun c => ?_)
  · replace h := h.1 c
    refine e_iconst dX9_rest_30 (by unfold InR; decide) ?_
    exact e_ireturn dX9_rest_31 rfl ⟨_, rfl, h⟩
  · replace h := h.2 c
    refine e_iload_n 2 dX9_rest_7 rfl ?_
    refine i_SI (μ' := MX9_isSet) (as := [vI x2]) (st := []) rfl dX9_rest_8 mOKX9_isSet ⟨mlX9_184, stX9_isSet⟩ (by decide) (Nat.le_of_ble_eq_true rfl) rfl (Nat.le_of_ble_eq_true rfl) (sX9_isSet ?_)
    refine e_if_eq (tgt := 30) dX9_rest_11 (by decide) (fun c => ?_) (fun c => ?_)
    · replace h := h.1 c
      refine e_iconst dX9_rest_30 (by unfold InR; decide) ?_
      exact e_ireturn dX9_rest_31 rfl ⟨_, rfl, h⟩
    · replace h := h.2 c
      refine e_aload_n 0 dX9_rest_14 rfl ?_
      refine e_iload_n 3 dX9_rest_15 rfl ?_
      have o1 := h.1
      replace h := h.2
      have o2 := h.1
      replace h := h.2
      refine i_VI (μ' := MX9_isBound) (ci := 8) (r := x0) (as := [vI x3]) (st := []) rfl dX9_rest_16 mOKX9_isBound ⟨mlX9_208, imX9_isBound, seX9_isBound⟩ (by decide) (Nat.le_of_ble_eq_true rfl) rfl (Nat.le_of_ble_eq_true rfl) ⟨by decide, rfl⟩ o1 (sX9_isBound o2 ?_)
      refine e_if_eq (tgt := 30) dX9_rest_19 (by decide) (fun c => ?_) (fun c => ?_)
      · replace h := h.1 c
        refine e_iconst dX9_rest_30 (by unfold InR; decide) ?_
        exact e_ireturn dX9_rest_31 rfl ⟨_, rfl, h⟩
      · replace h := h.2 c
        refine e_iload 4 dX9_rest_22 rfl ?_
        refine i_SI (μ' := MX9_isSlot) (as := [vI x4]) (st := []) rfl dX9_rest_24 mOKX9_isSlot ⟨mlX9_111, stX9_isSlot⟩ (by decide) (Nat.le_of_ble_eq_true rfl) rfl (Nat.le_of_ble_eq_true rfl) (sX9_isSlot ?_)
        refine e_if_ne (tgt := 32) dX9_rest_27 (by decide) (fun c => ?_) (fun c => ?_)
        · replace h := h.1 c
          refine e_aload_n 0 dX9_rest_32 rfl ?_
          refine e_iload_n 2 dX9_rest_33 rfl ?_
          refine i_VR (μ' := MX9_idealOf) (ci := 8) (r := x0) (as := [vI x2]) (st := []) rfl dX9_rest_34 mOKX9_idealOf ⟨mlX9_211, imX9_idealOf, seX9_idealOf⟩ (by decide) (Nat.le_of_ble_eq_true rfl) rfl (Nat.le_of_ble_eq_true rfl) ⟨by decide, rfl⟩ o1 (CR.mono h ?_)
          clear h
          intro S34 I34 R34 x34_ h
          refine e_aload_n 0 dX9_rest_37 rfl ?_
          have o3 := h.1
          replace h := h.2
          refine e_getR dX9_rest_38 flX9_20 rfl o3 ?_
          refine e_iload_n 1 dX9_rest_41 rfl ?_
          have o4 := h.1
          replace h := h.2
          have o5 := h.1
          replace h := h.2
          refine e_aald (t := 24) dX9_rest_42 o4 (by decide) (by decide) o5 ?_
          refine e_iload_n 3 dX9_rest_43 rfl ?_
          refine e_aload_n 0 dX9_rest_44 rfl ?_
          refine e_getR dX9_rest_45 flX9_60 rfl o3 ?_
          refine e_aload_n 0 dX9_rest_48 rfl ?_
          refine e_getR dX9_rest_49 flX9_12 rfl o3 ?_
          have o6 := h.1
          replace h := h.2
          refine i_VI (μ' := MX2_leaveOver) (ci := 2) (r := x34_) (as := [vR (R34 (R34 x0 1) (Int.toNat x1)), vI x3, vR (R34 x0 8), vR (R34 x0 0)]) (st := []) rfl dX9_rest_52 mOKX2_leaveOver ⟨mlX9_226, imX2_leaveOver, seX2_leaveOver⟩ (by decide) (Nat.le_of_ble_eq_true rfl) rfl (Nat.le_of_ble_eq_true rfl) ⟨by decide, rfl⟩ o6 (CI.mono h ?_)
          clear h
          intro S52 I52 R52 x52_ h
          refine e_istore (ls2 := [(5, vI x52_), (0, vR x0), (1, vI x1), (2, vI x2), (3, vI x3), (4, vI x4)]) dX9_rest_55 (by decide) rfl ?_
          refine e_iload 0 dX9_rest_57 rfl ?_
          refine e_if_eq (tgt := 71) dX9_rest_59 (by decide) (fun c => ?_) (fun c => ?_)
          · replace h := h.1 c
            refine e_iconst dX9_rest_71 (by unfold InR; decide) ?_
            exact e_ireturn dX9_rest_72 rfl ⟨_, rfl, h⟩
          · replace h := h.2 c
            refine e_aload_n 1 dX9_rest_62 rfl ?_
            refine e_iload 5 dX9_rest_63 rfl ?_
            have o7 := h.1
            replace h := h.2
            refine i_VI (μ' := MX9_putSpare) (ci := 8) (r := x0) (as := [vI x4]) (st := []) rfl dX9_rest_65 mOKX9_putSpare ⟨mlX9_127, imX9_putSpare, seX9_putSpare⟩ (by decide) (Nat.le_of_ble_eq_true rfl) rfl (Nat.le_of_ble_eq_true rfl) ⟨by decide, rfl⟩ o7 (CI.mono h ?_)
            clear h
            intro S65 I65 R65 x65_ h
            refine e_goto (tgt := 72) dX9_rest_68 (by decide) ?_
            exact e_ireturn dX9_rest_72 rfl ⟨_, rfl, h⟩
        · replace h := h.2 c
          refine e_iconst dX9_rest_30 (by unfold InR; decide) ?_
          exact e_ireturn dX9_rest_31 rfl ⟨_, rfl, h⟩

set_option maxRecDepth 100000 in
set_option maxHeartbeats 4000000 in
theorem bX9_look {G : Gl} {S : Sh} {I : MI} {R : MR} {Q : Sh → MI → MR → Int → Prop} {x0 : Nat} {x1 : Int} (h : ((x1 = 0 → (sT S x0 = 9 ∧ (sT S (R x0 0) = 6 ∧ Q S I R (I (R x0 0) 0)))) ∧ (¬ (x1 = 0) → ((x1 = 1 → (sT S x0 = 9 ∧ (sT S (R x0 0) = 6 ∧ (sT S (R (R x0 0) 1) = 4 ∧ Q S I R (I (R (R x0 0) 1) 0))))) ∧ (¬ (x1 = 1) → ((x1 = 2 → (sT S x0 = 9 ∧ (sT S (R x0 0) = 6 ∧ (sT S (R (R x0 0) 2) = 21 ∧ (((0 : Int) ≤ (w32 (x1 - 2)) ∧ (w32 (x1 - 2)) < (sL S (R (R x0 0) 2) : Int)) ∧ Q S I R (I (R (R x0 0) 2) (Int.toNat (w32 (x1 - 2))))))))) ∧ (¬ (x1 = 2) → ((x1 = 3 → (sT S x0 = 9 ∧ (sT S (R x0 0) = 6 ∧ (sT S (R (R x0 0) 2) = 21 ∧ (((0 : Int) ≤ (w32 (x1 - 2)) ∧ (w32 (x1 - 2)) < (sL S (R (R x0 0) 2) : Int)) ∧ Q S I R (I (R (R x0 0) 2) (Int.toNat (w32 (x1 - 2))))))))) ∧ (¬ (x1 = 3) → ((x1 = 4 → (sT S x0 = 9 ∧ (sT S (R x0 0) = 6 ∧ (sT S (R (R x0 0) 2) = 21 ∧ (((0 : Int) ≤ (w32 (x1 - 2)) ∧ (w32 (x1 - 2)) < (sL S (R (R x0 0) 2) : Int)) ∧ Q S I R (I (R (R x0 0) 2) (Int.toNat (w32 (x1 - 2))))))))) ∧ (¬ (x1 = 4) → ((x1 = 5 → (sT S x0 = 9 ∧ (sT S (R x0 0) = 6 ∧ ((pX6_bound S (R x0 0)) ∧ Q S I R (vX6_bound I (R x0 0)))))) ∧ (¬ (x1 = 5) → ((x1 = 6 → (sT S x0 = 9 ∧ (CI G MX9_held [vR x0, vI 255] S I R (fun S103 I103 R103 x103_ => Q S103 I103 R103 x103_)))) ∧ (¬ (x1 = 6) → ((x1 = 7 → (sT S x0 = 9 ∧ (sT S (R x0 2) = 7 ∧ Q S I R (I (R x0 2) 1)))) ∧ (¬ (x1 = 7) → ((x1 = 8 → (sT S x0 = 9 ∧ (sT S (R x0 4) = 1 ∧ (((I (R x0 4) 0) = 0 → Q S I R 0) ∧ (¬ ((I (R x0 4) 0) = 0) → Q S I R 1))))) ∧ (¬ (x1 = 8) → ((x1 = 9 → (sT S x0 = 9 ∧ (sT S (R x0 4) = 1 ∧ (((I (R x0 4) 0) = 0 → Q S I R (-1)) ∧ (¬ ((I (R x0 4) 0) = 0) → Q S I R (I (R x0 4) 1)))))) ∧ (¬ (x1 = 9) → ((x1 = 10 → (sT S x0 = 9 ∧ (sT S (R x0 4) = 1 ∧ (((I (R x0 4) 0) = 0 → Q S I R (-1)) ∧ (¬ ((I (R x0 4) 0) = 0) → Q S I R (I (R x0 4) 2)))))) ∧ (¬ (x1 = 10) → Q S I R (-1)))))))))))))))))))))))) : CI G MX9_look [vR x0, vI x1] S I R Q := by
  show E G MX9_look 0 [(0, vR x0), (1, vI x1)] [] S I R (qI Q)
  refine e_iload_n 1 dX9_look_0 rfl ?_
  by_cases c0 : x1 = 0
  · replace h := h.1 c0
    refine e_tabIn (tgt := 60) dX9_look_1 0 c0 (by decide) rfl (by decide) ?_
    refine e_aload_n 0 dX9_look_60 rfl ?_
    have o1 := h.1
    replace h := h.2
    refine e_getR dX9_look_61 flX9_12 rfl o1 ?_
    have o2 := h.1
    replace h := h.2
    refine e_getI dX9_look_64 flX9_74 rfl o2 ?_
    exact e_ireturn dX9_look_67 rfl ⟨_, rfl, h⟩
  · replace h := h.2 c0
    by_cases c1 : x1 = 1
    · replace h := h.1 c1
      refine e_tabIn (tgt := 68) dX9_look_1 1 c1 (by decide) rfl (by decide) ?_
      refine e_aload_n 0 dX9_look_68 rfl ?_
      have o3 := h.1
      replace h := h.2
      refine e_getR dX9_look_69 flX9_12 rfl o3 ?_
      have o4 := h.1
      replace h := h.2
      refine e_getR dX9_look_72 flX9_81 rfl o4 ?_
      have o5 := h.1
      replace h := h.2
      refine e_getI dX9_look_75 flX9_244 rfl o5 ?_
      exact e_ireturn dX9_look_78 rfl ⟨_, rfl, h⟩
    · replace h := h.2 c1
      by_cases c2 : x1 = 2
      · replace h := h.1 c2
        refine e_tabIn (tgt := 79) dX9_look_1 2 c2 (by decide) rfl (by decide) ?_
        refine e_aload_n 0 dX9_look_79 rfl ?_
        have o6 := h.1
        replace h := h.2
        refine e_getR dX9_look_80 flX9_12 rfl o6 ?_
        have o7 := h.1
        replace h := h.2
        refine e_getR dX9_look_83 flX9_247 rfl o7 ?_
        refine e_iload_n 1 dX9_look_86 rfl ?_
        refine e_iconst dX9_look_87 (by unfold InR; decide) ?_
        refine e_isub dX9_look_88 ?_
        have o8 := h.1
        replace h := h.2
        have o9 := h.1
        replace h := h.2
        refine e_iald dX9_look_89 o8 o9 ?_
        exact e_ireturn dX9_look_90 rfl ⟨_, rfl, h⟩
      · replace h := h.2 c2
        by_cases c3 : x1 = 3
        · replace h := h.1 c3
          refine e_tabIn (tgt := 79) dX9_look_1 3 c3 (by decide) rfl (by decide) ?_
          refine e_aload_n 0 dX9_look_79 rfl ?_
          have o10 := h.1
          replace h := h.2
          refine e_getR dX9_look_80 flX9_12 rfl o10 ?_
          have o11 := h.1
          replace h := h.2
          refine e_getR dX9_look_83 flX9_247 rfl o11 ?_
          refine e_iload_n 1 dX9_look_86 rfl ?_
          refine e_iconst dX9_look_87 (by unfold InR; decide) ?_
          refine e_isub dX9_look_88 ?_
          have o12 := h.1
          replace h := h.2
          have o13 := h.1
          replace h := h.2
          refine e_iald dX9_look_89 o12 o13 ?_
          exact e_ireturn dX9_look_90 rfl ⟨_, rfl, h⟩
        · replace h := h.2 c3
          by_cases c4 : x1 = 4
          · replace h := h.1 c4
            refine e_tabIn (tgt := 79) dX9_look_1 4 c4 (by decide) rfl (by decide) ?_
            refine e_aload_n 0 dX9_look_79 rfl ?_
            have o14 := h.1
            replace h := h.2
            refine e_getR dX9_look_80 flX9_12 rfl o14 ?_
            have o15 := h.1
            replace h := h.2
            refine e_getR dX9_look_83 flX9_247 rfl o15 ?_
            refine e_iload_n 1 dX9_look_86 rfl ?_
            refine e_iconst dX9_look_87 (by unfold InR; decide) ?_
            refine e_isub dX9_look_88 ?_
            have o16 := h.1
            replace h := h.2
            have o17 := h.1
            replace h := h.2
            refine e_iald dX9_look_89 o16 o17 ?_
            exact e_ireturn dX9_look_90 rfl ⟨_, rfl, h⟩
          · replace h := h.2 c4
            by_cases c5 : x1 = 5
            · replace h := h.1 c5
              refine e_tabIn (tgt := 91) dX9_look_1 5 c5 (by decide) rfl (by decide) ?_
              refine e_aload_n 0 dX9_look_91 rfl ?_
              have o18 := h.1
              replace h := h.2
              refine e_getR dX9_look_92 flX9_12 rfl o18 ?_
              have o19 := h.1
              replace h := h.2
              have o20 := h.1
              replace h := h.2
              refine i_VI (μ' := MX6_bound) (ci := 5) (r := (R x0 0)) (as := []) (st := []) rfl dX9_look_95 mOKX6_bound ⟨mlX9_250, imX6_bound, seX6_bound⟩ (by decide) (Nat.le_of_ble_eq_true rfl) rfl (Nat.le_of_ble_eq_true rfl) ⟨by decide, rfl⟩ o19 (sX6_bound o20 ?_)
              exact e_ireturn dX9_look_98 rfl ⟨_, rfl, h⟩
            · replace h := h.2 c5
              by_cases c6 : x1 = 6
              · replace h := h.1 c6
                refine e_tabIn (tgt := 99) dX9_look_1 6 c6 (by decide) rfl (by decide) ?_
                refine e_aload_n 0 dX9_look_99 rfl ?_
                refine e_sipush (x := 255) dX9_look_100 ⟨by decide +kernel, by unfold InR; decide⟩ ?_
                have o21 := h.1
                replace h := h.2
                refine i_VI (μ' := MX9_held) (ci := 8) (r := x0) (as := [vI 255]) (st := []) rfl dX9_look_103 mOKX9_held ⟨mlX9_187, imX9_held, seX9_held⟩ (by decide) (Nat.le_of_ble_eq_true rfl) rfl (Nat.le_of_ble_eq_true rfl) ⟨by decide, rfl⟩ o21 (CI.mono h ?_)
                clear h
                intro S103 I103 R103 x103_ h
                exact e_ireturn dX9_look_106 rfl ⟨_, rfl, h⟩
              · replace h := h.2 c6
                by_cases c7 : x1 = 7
                · replace h := h.1 c7
                  refine e_tabIn (tgt := 107) dX9_look_1 7 c7 (by decide) rfl (by decide) ?_
                  refine e_aload_n 0 dX9_look_107 rfl ?_
                  have o22 := h.1
                  replace h := h.2
                  refine e_getR dX9_look_108 flX9_27 rfl o22 ?_
                  have o23 := h.1
                  replace h := h.2
                  refine e_getI dX9_look_111 flX9_102 rfl o23 ?_
                  exact e_ireturn dX9_look_114 rfl ⟨_, rfl, h⟩
                · replace h := h.2 c7
                  by_cases c8 : x1 = 8
                  · replace h := h.1 c8
                    refine e_tabIn (tgt := 115) dX9_look_1 8 c8 (by decide) rfl (by decide) ?_
                    refine e_aload_n 0 dX9_look_115 rfl ?_
                    have o24 := h.1
                    replace h := h.2
                    refine e_getR dX9_look_116 flX9_41 rfl o24 ?_
                    have o25 := h.1
                    replace h := h.2
                    refine e_getI dX9_look_119 flX9_198 rfl o25 ?_
                    refine e_if_eq (tgt := 129) dX9_look_122 (by decide) (fun c => ?_) (fun c => ?_)
                    · replace h := h.1 c
                      refine e_iconst dX9_look_129 (by unfold InR; decide) ?_
                      exact e_ireturn dX9_look_130 rfl ⟨_, rfl, h⟩
                    · replace h := h.2 c
                      refine e_iconst dX9_look_125 (by unfold InR; decide) ?_
                      refine e_goto (tgt := 130) dX9_look_126 (by decide) ?_
                      exact e_ireturn dX9_look_130 rfl ⟨_, rfl, h⟩
                  · replace h := h.2 c8
                    by_cases c9 : x1 = 9
                    · replace h := h.1 c9
                      refine e_tabIn (tgt := 131) dX9_look_1 9 c9 (by decide) rfl (by decide) ?_
                      refine e_aload_n 0 dX9_look_131 rfl ?_
                      have o26 := h.1
                      replace h := h.2
                      refine e_getR dX9_look_132 flX9_41 rfl o26 ?_
                      have o27 := h.1
                      replace h := h.2
                      refine e_getI dX9_look_135 flX9_198 rfl o27 ?_
                      refine e_if_eq (tgt := 151) dX9_look_138 (by decide) (fun c => ?_) (fun c => ?_)
                      · replace h := h.1 c
                        refine e_iconst dX9_look_151 (by unfold InR; decide) ?_
                        exact e_ireturn dX9_look_152 rfl ⟨_, rfl, h⟩
                      · replace h := h.2 c
                        refine e_aload_n 0 dX9_look_141 rfl ?_
                        refine e_getR dX9_look_142 flX9_41 rfl o26 ?_
                        refine e_getI dX9_look_145 flX9_253 rfl o27 ?_
                        refine e_goto (tgt := 152) dX9_look_148 (by decide) ?_
                        exact e_ireturn dX9_look_152 rfl ⟨_, rfl, h⟩
                    · replace h := h.2 c9
                      by_cases c10 : x1 = 10
                      · replace h := h.1 c10
                        refine e_tabIn (tgt := 153) dX9_look_1 10 c10 (by decide) rfl (by decide) ?_
                        refine e_aload_n 0 dX9_look_153 rfl ?_
                        have o28 := h.1
                        replace h := h.2
                        refine e_getR dX9_look_154 flX9_41 rfl o28 ?_
                        have o29 := h.1
                        replace h := h.2
                        refine e_getI dX9_look_157 flX9_198 rfl o29 ?_
                        refine e_if_eq (tgt := 173) dX9_look_160 (by decide) (fun c => ?_) (fun c => ?_)
                        · replace h := h.1 c
                          refine e_iconst dX9_look_173 (by unfold InR; decide) ?_
                          exact e_ireturn dX9_look_174 rfl ⟨_, rfl, h⟩
                        · replace h := h.2 c
                          refine e_aload_n 0 dX9_look_163 rfl ?_
                          refine e_getR dX9_look_164 flX9_41 rfl o28 ?_
                          refine e_getI dX9_look_167 flX9_256 rfl o29 ?_
                          refine e_goto (tgt := 174) dX9_look_170 (by decide) ?_
                          exact e_ireturn dX9_look_174 rfl ⟨_, rfl, h⟩
                      · replace h := h.2 c10
                        refine e_tabOut (tgt := 175) dX9_look_1 (by omega) (by decide) ?_
                        refine e_iconst dX9_look_175 (by unfold InR; decide) ?_
                        exact e_ireturn dX9_look_176 rfl ⟨_, rfl, h⟩
