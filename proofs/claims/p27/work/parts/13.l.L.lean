set_option maxRecDepth 100000 in
set_option maxHeartbeats 4000000 in
theorem bL_cell {G : Gl} {S : Sh} {I : MI} {R : MR} {Q : Sh → MI → MR → Int → Prop} {x1 : Int} (h : (gL G ≤ 260 ∧ (((gL G : Int) ≤ x1 → Q S I R (w32 ((w32 (1183187329 * x1)) + 731))) ∧ (¬ ((gL G : Int) ≤ x1) → (((0 : Int) ≤ x1 ∧ x1 < (gL G : Int)) ∧ Q S I R ((gX G (Int.toNat x1)).toInt)))))) : CI G ML_cell [vS, vI x1] S I R Q := by
  show E G ML_cell 0 [(0, vS), (1, vI x1)] [] S I R (qI Q)
  refine e_iload_n 1 dL_cell_0 rfl ?_
  refine e_aload_n 0 dL_cell_1 rfl ?_
  have o1 := h.1
  replace h := h.2
  refine e_slenX dL_cell_2 o1 ?_
  refine e_icmp_ge (tgt := 12) dL_cell_3 (by decide) (fun c => ?_) (fun c => ?_)
  · replace h := h.1 c
    refine e_ldc (x := 1183187329) dL_cell_12 cnL_7 (by unfold InR; decide) ?_
    refine e_iload_n 1 dL_cell_14 rfl ?_
    refine e_imul dL_cell_15 ?_
    refine e_sipush (x := 731) dL_cell_16 ⟨by decide +kernel, by unfold InR; decide⟩ ?_
    refine e_iadd dL_cell_19 ?_
    exact e_ireturn dL_cell_20 rfl ⟨_, rfl, h⟩
  · replace h := h.2 c
    refine e_aload_n 0 dL_cell_6 rfl ?_
    refine e_iload_n 1 dL_cell_7 rfl ?_
    have o2 := h.1
    replace h := h.2
    refine e_sld dL_cell_8 o2 ?_
    refine e_goto (tgt := 20) dL_cell_9 (by decide) ?_
    exact e_ireturn dL_cell_20 rfl ⟨_, rfl, h⟩

def vL_between  (x0 : Int) (x1 : Int) (x2 : Int) : Int := (w32 (x1 + (irem (iand x0 2147483647) (w32 ((w32 (x2 - x1)) + 1)))))
def pL_between  (x0 : Int) (x1 : Int) (x2 : Int) : Prop := ((w32 ((w32 (x2 - x1)) + 1)) ≠ 0 ∧ True)
set_option maxRecDepth 100000 in
set_option maxHeartbeats 4000000 in
theorem sL_between {G : Gl} {S : Sh} {I : MI} {R : MR} {Q : Sh → MI → MR → Int → Prop} {x0 : Int} {x1 : Int} {x2 : Int} (hp : pL_between x0 x1 x2) (hq : Q S I R (vL_between x0 x1 x2)) : CI G ML_between [vI x0, vI x1, vI x2] S I R Q := by
  show E G ML_between 0 [(0, vI x0), (1, vI x1), (2, vI x2)] [] S I R (qI Q)
  unfold vL_between at hq
  unfold pL_between at hp
  refine e_iload_n 1 dL_between_0 rfl ?_
  refine e_iload_n 0 dL_between_1 rfl ?_
  refine e_ldc (x := 2147483647) dL_between_2 cnL_8 (by unfold InR; decide) ?_
  refine e_iand dL_between_4 ?_
  refine e_iload_n 2 dL_between_5 rfl ?_
  refine e_iload_n 1 dL_between_6 rfl ?_
  refine e_isub dL_between_7 ?_
  refine e_iconst dL_between_8 (by unfold InR; decide) ?_
  refine e_iadd dL_between_9 ?_
  have o1 := hp.1
  replace hp := hp.2
  refine e_irem dL_between_10 o1 ?_
  refine e_iadd dL_between_11 ?_
  exact e_ireturn dL_between_12 rfl ⟨_, rfl, hq⟩

def LL_poly_2 (G : Gl) (x0 : Nat) (x1 : Int) (x2 : Nat) (x3 : Int) (S : Sh) (I : MI) (R : MR) (Q : Sh → MI → MR → Int → Prop) : Prop := E G ML_poly 2 [(0, vR x0), (1, vI x1), (2, vR x2), (3, vI x3)] [] S I R (qI Q)
def LL_poly_18 (G : Gl) (x0 : Nat) (x1 : Int) (x2 : Nat) (x3 : Int) (x4 : Nat) (x5 : Int) (S : Sh) (I : MI) (R : MR) (Q : Sh → MI → MR → Int → Prop) : Prop := E G ML_poly 18 [(0, vR x0), (1, vI x1), (2, vR x2), (3, vI x3), (4, vR x4), (5, vI x5)] [] S I R (qI Q)
def LL_poly_57 (G : Gl) (x0 : Nat) (x1 : Int) (x2 : Nat) (x3 : Int) (x4 : Nat) (x5 : Int) (y0 : Int) (y1 : Int) (y2 : Int) (y3 : Nat) (S : Sh) (I : MI) (R : MR) (Q : Sh → MI → MR → Int → Prop) : Prop := E G ML_poly 57 [(0, vR x0), (1, vI x1), (2, vR x2), (3, vI x3), (4, vR x4), (5, vI x5)] [vI y0, vI y1, vI y2, vR y3] S I R (qI Q)
set_option maxRecDepth 100000 in
set_option maxHeartbeats 4000000 in
theorem bL_poly {G : Gl} {S : Sh} {I : MI} {R : MR} {Q : Sh → MI → MR → Int → Prop} {x0 : Nat} {x1 : Int} {x2 : Nat} (h : LL_poly_2 G x0 x1 x2 0 S I R Q) : CI G ML_poly [vR x0, vI x1, vR x2] S I R Q := by
  show E G ML_poly 0 [(0, vR x0), (1, vI x1), (2, vR x2)] [] S I R (qI Q)
  refine e_iconst dL_poly_0 (by unfold InR; decide) ?_
  refine e_istore_n (ls2 := [(3, vI 0), (0, vR x0), (1, vI x1), (2, vR x2)]) dL_poly_1 (by decide) rfl ?_
  exact e_sub (ls2 := [(0, vR x0), (1, vI x1), (2, vR x2), (3, vI 0)]) [1, 2, 3, 0] rfl h
set_option maxRecDepth 100000 in
set_option maxHeartbeats 4000000 in
theorem bL_poly_2 {G : Gl} {S : Sh} {I : MI} {R : MR} {Q : Sh → MI → MR → Int → Prop} {x0 : Nat} {x1 : Int} {x2 : Nat} {x3 : Int} (h : (sT S x2 = 10 ∧ (CI G MJ0_length_8abf5 [vR x2] S I R (fun S4 I4 R4 x4_ => ((x4_ ≤ x3 → (sT S4 x2 = 10 ∧ (CI G MJ0_length_8abf5 [vR x2] S4 I4 R4 (fun S109 I109 R109 x109_ => (sT S109 x0 = 9 ∧ (CI G MX9_end [vR x0, vI x109_] S109 I109 R109 (fun S112 I112 R112 x112_ => (sT S112 x0 = 9 ∧ (CI G MX9_poly [vR x0, vI x1] S112 I112 R112 (fun S118 I118 R118 x118_ => Q S118 I118 R118 x118_)))))))))) ∧ (¬ (x4_ ≤ x3) → (∀ S11 I11 R11, S11 = shNew S4 21 5 5 → I11 = mNew I4 (sN S4) 0 → R11 = mNew R4 (sN S4) 0 → LL_poly_18 G x0 x1 x2 x3 (sN S4) 0 S11 I11 R11 Q))))))) : LL_poly_2 G x0 x1 x2 x3 S I R Q := by
  show E G ML_poly 2 [(0, vR x0), (1, vI x1), (2, vR x2), (3, vI x3)] [] S I R (qI Q)
  refine e_iload_n 3 dL_poly_2 rfl ?_
  refine e_aload_n 2 dL_poly_3 rfl ?_
  have o1 := h.1
  replace h := h.2
  refine i_VI (μ' := MJ0_length_8abf5) (ci := 9) (r := x2) (as := []) (st := [vI x3]) rfl dL_poly_4 mOKJ0_length_8abf5 ⟨mlL_9, imJ0_length_8abf5, seJ0_length_8abf5⟩ (by decide) (Nat.le_of_ble_eq_true rfl) rfl (Nat.le_of_ble_eq_true rfl) ⟨by decide, rfl⟩ o1 (CI.mono h ?_)
  clear h
  intro S4 I4 R4 x4_ h
  refine e_icmp_ge (tgt := 107) dL_poly_7 (by decide) (fun c => ?_) (fun c => ?_)
  · replace h := h.1 c
    refine e_aload_n 0 dL_poly_107 rfl ?_
    refine e_aload_n 2 dL_poly_108 rfl ?_
    have o2 := h.1
    replace h := h.2
    refine i_VI (μ' := MJ0_length_8abf5) (ci := 9) (r := x2) (as := []) (st := [vR x0]) rfl dL_poly_109 mOKJ0_length_8abf5 ⟨mlL_9, imJ0_length_8abf5, seJ0_length_8abf5⟩ (by decide) (Nat.le_of_ble_eq_true rfl) rfl (Nat.le_of_ble_eq_true rfl) ⟨by decide, rfl⟩ o2 (CI.mono h ?_)
    clear h
    intro S109 I109 R109 x109_ h
    have o3 := h.1
    replace h := h.2
    refine i_VI (μ' := MX9_end) (ci := 8) (r := x0) (as := [vI x109_]) (st := []) rfl dL_poly_112 mOKX9_end ⟨mlL_25, imX9_end, seX9_end⟩ (by decide) (Nat.le_of_ble_eq_true rfl) rfl (Nat.le_of_ble_eq_true rfl) ⟨by decide, rfl⟩ o3 (CI.mono h ?_)
    clear h
    intro S112 I112 R112 x112_ h
    refine e_pop dL_poly_115 rfl ?_
    refine e_aload_n 0 dL_poly_116 rfl ?_
    refine e_iload_n 1 dL_poly_117 rfl ?_
    have o4 := h.1
    replace h := h.2
    refine i_VI (μ' := MX9_poly) (ci := 8) (r := x0) (as := [vI x1]) (st := []) rfl dL_poly_118 mOKX9_poly ⟨mlL_29, imX9_poly, seX9_poly⟩ (by decide) (Nat.le_of_ble_eq_true rfl) rfl (Nat.le_of_ble_eq_true rfl) ⟨by decide, rfl⟩ o4 (CI.mono h ?_)
    clear h
    intro S118 I118 R118 x118_ h
    exact e_ireturn dL_poly_121 rfl ⟨_, rfl, h⟩
  · replace h := h.2 c
    refine e_iconst dL_poly_10 (by unfold InR; decide) ?_
    obtain ⟨S11, eS11⟩ : ∃ z : Sh, z = shNew S4 21 5 5 := ⟨_, rfl⟩
    obtain ⟨I11, eI11⟩ : ∃ z : MI, z = mNew I4 (sN S4) 0 := ⟨_, rfl⟩
    obtain ⟨R11, eR11⟩ : ∃ z : MR, z = mNew R4 (sN S4) 0 := ⟨_, rfl⟩
    replace h := h S11 I11 R11 eS11 eI11 eR11
    refine e_newa (t := 21) (n := 5) dL_poly_11 (Or.inl ⟨rfl, rfl⟩) acint rfl (by decide) (eqS eS11 (eqI eI11 (eqR eR11 ?_)))
    refine e_astore (ls2 := [(4, vR (sN S4)), (0, vR x0), (1, vI x1), (2, vR x2), (3, vI x3)]) dL_poly_13 (by decide) rfl ?_
    refine e_iconst dL_poly_15 (by unfold InR; decide) ?_
    refine e_istore (ls2 := [(5, vI 0), (4, vR (sN S4)), (0, vR x0), (1, vI x1), (2, vR x2), (3, vI x3)]) dL_poly_16 (by decide) rfl ?_
    exact e_sub (ls2 := [(0, vR x0), (1, vI x1), (2, vR x2), (3, vI x3), (4, vR (sN S4)), (5, vI 0)]) [2, 3, 4, 5, 1, 0] rfl h
set_option maxRecDepth 100000 in
set_option maxHeartbeats 4000000 in
theorem bL_poly_18 {G : Gl} {S : Sh} {I : MI} {R : MR} {Q : Sh → MI → MR → Int → Prop} {x0 : Nat} {x1 : Int} {x2 : Nat} {x3 : Int} {x4 : Nat} {x5 : Int} (h : ((20 ≤ x5 → (sT S x4 = 21 ∧ (((0 : Int) ≤ 0 ∧ 0 < (sL S x4 : Int)) ∧ (((0 : Int) ≤ 1 ∧ 1 < (sL S x4 : Int)) ∧ (((0 : Int) ≤ 2 ∧ 2 < (sL S x4 : Int)) ∧ (((0 : Int) ≤ 3 ∧ 3 < (sL S x4 : Int)) ∧ (((0 : Int) ≤ 4 ∧ 4 < (sL S x4 : Int)) ∧ (sT S x0 = 9 ∧ (CI G MX9_feed [vR x0, vI (I x4 (Int.toNat 0)), vI (I x4 (Int.toNat 1)), vI (I x4 (Int.toNat 2)), vI (I x4 (Int.toNat 3)), vI (I x4 (Int.toNat 4))] S I R (fun S97 I97 R97 x97_ => LL_poly_2 G x0 x1 x2 (w32 (x3 + 20)) S97 I97 R97 Q)))))))))) ∧ (¬ (20 ≤ x5) → (sT S x4 = 21 ∧ (((0 : Int) ≤ (idiv x5 4) ∧ (idiv x5 4) < (sL S x4 : Int)) ∧ (sT S x2 = 10 ∧ (CI G MJ0_length_8abf5 [vR x2] S I R (fun S38 I38 R38 x38_ => ((x38_ ≤ (w32 (x3 + x5)) → LL_poly_57 G x0 x1 x2 x3 x4 x5 32 (I x4 (Int.toNat (idiv x5 4))) (idiv x5 4) x4 S38 I38 R38 Q) ∧ (¬ (x38_ ≤ (w32 (x3 + x5))) → (sT S38 x2 = 10 ∧ (CI G MJ0_charAt_5068e [vR x2, vI (w32 (x3 + x5))] S38 I38 R38 (fun S49 I49 R49 x49_ => LL_poly_57 G x0 x1 x2 x3 x4 x5 x49_ (I x4 (Int.toNat (idiv x5 4))) (idiv x5 4) x4 S49 I49 R49 Q))))))))))))) : LL_poly_18 G x0 x1 x2 x3 x4 x5 S I R Q := by
  show E G ML_poly 18 [(0, vR x0), (1, vI x1), (2, vR x2), (3, vI x3), (4, vR x4), (5, vI x5)] [] S I R (qI Q)
  refine e_iload 5 dL_poly_18 rfl ?_
  refine e_bipush (x := 20) dL_poly_20 ⟨by decide +kernel, by unfold InR; decide⟩ ?_
  refine e_icmp_ge (tgt := 76) dL_poly_22 (by decide) (fun c => ?_) (fun c => ?_)
  · replace h := h.1 c
    refine e_aload_n 0 dL_poly_76 rfl ?_
    refine e_aload 4 dL_poly_77 rfl ?_
    refine e_iconst dL_poly_79 (by unfold InR; decide) ?_
    have o5 := h.1
    replace h := h.2
    have o6 := h.1
    replace h := h.2
    refine e_iald dL_poly_80 o5 o6 ?_
    refine e_aload 4 dL_poly_81 rfl ?_
    refine e_iconst dL_poly_83 (by unfold InR; decide) ?_
    have o7 := h.1
    replace h := h.2
    refine e_iald dL_poly_84 o5 o7 ?_
    refine e_aload 4 dL_poly_85 rfl ?_
    refine e_iconst dL_poly_87 (by unfold InR; decide) ?_
    have o8 := h.1
    replace h := h.2
    refine e_iald dL_poly_88 o5 o8 ?_
    refine e_aload 4 dL_poly_89 rfl ?_
    refine e_iconst dL_poly_91 (by unfold InR; decide) ?_
    have o9 := h.1
    replace h := h.2
    refine e_iald dL_poly_92 o5 o9 ?_
    refine e_aload 4 dL_poly_93 rfl ?_
    refine e_iconst dL_poly_95 (by unfold InR; decide) ?_
    have o10 := h.1
    replace h := h.2
    refine e_iald dL_poly_96 o5 o10 ?_
    have o11 := h.1
    replace h := h.2
    refine i_VI (μ' := MX9_feed) (ci := 8) (r := x0) (as := [vI (I x4 (Int.toNat 0)), vI (I x4 (Int.toNat 1)), vI (I x4 (Int.toNat 2)), vI (I x4 (Int.toNat 3)), vI (I x4 (Int.toNat 4))]) (st := []) rfl dL_poly_97 mOKX9_feed ⟨mlL_19, imX9_feed, seX9_feed⟩ (by decide) (Nat.le_of_ble_eq_true rfl) rfl (Nat.le_of_ble_eq_true rfl) ⟨by decide, rfl⟩ o11 (CI.mono h ?_)
    clear h
    intro S97 I97 R97 x97_ h
    refine e_pop dL_poly_100 rfl ?_
    refine e_iinc (ls2 := [(3, vI (w32 (x3 + 20))), (0, vR x0), (1, vI x1), (2, vR x2), (4, vR x4), (5, vI x5)]) 3 dL_poly_101 rfl (by decide) rfl ?_
    refine e_goto (tgt := 2) dL_poly_104 (by decide) ?_
    exact e_sub (ls2 := [(0, vR x0), (1, vI x1), (2, vR x2), (3, vI (w32 (x3 + 20)))]) [1, 2, 3, 0] rfl h
  · replace h := h.2 c
    refine e_aload 4 dL_poly_25 rfl ?_
    refine e_iload 5 dL_poly_27 rfl ?_
    refine e_iconst dL_poly_29 (by unfold InR; decide) ?_
    refine e_idiv dL_poly_30 (by decide) ?_
    refine e_dup2 dL_poly_31 rfl rfl ?_
    have o12 := h.1
    replace h := h.2
    have o13 := h.1
    replace h := h.2
    refine e_iald dL_poly_32 o12 o13 ?_
    refine e_iload_n 3 dL_poly_33 rfl ?_
    refine e_iload 5 dL_poly_34 rfl ?_
    refine e_iadd dL_poly_36 ?_
    refine e_aload_n 2 dL_poly_37 rfl ?_
    have o14 := h.1
    replace h := h.2
    refine i_VI (μ' := MJ0_length_8abf5) (ci := 9) (r := x2) (as := []) (st := [vI (w32 (x3 + x5)), vI (I x4 (Int.toNat (idiv x5 4))), vI (idiv x5 4), vR x4]) rfl dL_poly_38 mOKJ0_length_8abf5 ⟨mlL_9, imJ0_length_8abf5, seJ0_length_8abf5⟩ (by decide) (Nat.le_of_ble_eq_true rfl) rfl (Nat.le_of_ble_eq_true rfl) ⟨by decide, rfl⟩ o14 (CI.mono h ?_)
    clear h
    intro S38 I38 R38 x38_ h
    refine e_icmp_ge (tgt := 55) dL_poly_41 (by decide) (fun c => ?_) (fun c => ?_)
    · replace h := h.1 c
      refine e_bipush (x := 32) dL_poly_55 ⟨by decide +kernel, by unfold InR; decide⟩ ?_
      exact e_sub (ls2 := [(0, vR x0), (1, vI x1), (2, vR x2), (3, vI x3), (4, vR x4), (5, vI x5)]) [0, 1, 2, 3, 4, 5] rfl h
    · replace h := h.2 c
      refine e_aload_n 2 dL_poly_44 rfl ?_
      refine e_iload_n 3 dL_poly_45 rfl ?_
      refine e_iload 5 dL_poly_46 rfl ?_
      refine e_iadd dL_poly_48 ?_
      have o15 := h.1
      replace h := h.2
      refine i_VI (μ' := MJ0_charAt_5068e) (ci := 9) (r := x2) (as := [vI (w32 (x3 + x5))]) (st := [vI (I x4 (Int.toNat (idiv x5 4))), vI (idiv x5 4), vR x4]) rfl dL_poly_49 mOKJ0_charAt_5068e ⟨mlL_15, imJ0_charAt_5068e, seJ0_charAt_5068e⟩ (by decide) (Nat.le_of_ble_eq_true rfl) rfl (Nat.le_of_ble_eq_true rfl) ⟨by decide, rfl⟩ o15 (CI.mono h ?_)
      clear h
      intro S49 I49 R49 x49_ h
      refine e_goto (tgt := 57) dL_poly_52 (by decide) ?_
      exact e_sub (ls2 := [(0, vR x0), (1, vI x1), (2, vR x2), (3, vI x3), (4, vR x4), (5, vI x5)]) [0, 1, 2, 3, 4, 5] rfl h
set_option maxRecDepth 100000 in
set_option maxHeartbeats 4000000 in
theorem bL_poly_57 {G : Gl} {S : Sh} {I : MI} {R : MR} {Q : Sh → MI → MR → Int → Prop} {x0 : Nat} {x1 : Int} {x2 : Nat} {x3 : Int} {x4 : Nat} {x5 : Int} {y0 : Int} {y1 : Int} {y2 : Int} {y3 : Nat} (h : (sT S y3 = 21 ∧ (((0 : Int) ≤ y2 ∧ y2 < (sL S y3 : Int)) ∧ (∀ I69, I69 = up2 I y3 (Int.toNat y2) (ior y1 (ishl y0 (w32 (24 - (w32 (8 * (irem x5 4))))))) → LL_poly_18 G x0 x1 x2 x3 x4 (w32 (x5 + 1)) S I69 R Q)))) : LL_poly_57 G x0 x1 x2 x3 x4 x5 y0 y1 y2 y3 S I R Q := by
  show E G ML_poly 57 [(0, vR x0), (1, vI x1), (2, vR x2), (3, vI x3), (4, vR x4), (5, vI x5)] [vI y0, vI y1, vI y2, vR y3] S I R (qI Q)
  refine e_bipush (x := 24) dL_poly_57 ⟨by decide +kernel, by unfold InR; decide⟩ ?_
  refine e_bipush (x := 8) dL_poly_59 ⟨by decide +kernel, by unfold InR; decide⟩ ?_
  refine e_iload 5 dL_poly_61 rfl ?_
  refine e_iconst dL_poly_63 (by unfold InR; decide) ?_
  refine e_irem dL_poly_64 (by decide) ?_
  refine e_imul dL_poly_65 ?_
  refine e_isub dL_poly_66 ?_
  refine e_ishl dL_poly_67 ?_
  refine e_ior dL_poly_68 ?_
  have o16 := h.1
  replace h := h.2
  have o17 := h.1
  replace h := h.2
  obtain ⟨I69, eI69⟩ : ∃ z : MI, z = up2 I y3 (Int.toNat y2) (ior y1 (ishl y0 (w32 (24 - (w32 (8 * (irem x5 4))))))) := ⟨_, rfl⟩
  replace h := h I69 eI69
  refine e_iast dL_poly_69 o16 o17 (eqI eI69 ?_)
  refine e_iinc (ls2 := [(5, vI (w32 (x5 + 1))), (0, vR x0), (1, vI x1), (2, vR x2), (3, vI x3), (4, vR x4)]) 5 dL_poly_70 rfl (by decide) rfl ?_
  refine e_goto (tgt := 18) dL_poly_73 (by decide) ?_
  exact e_sub (ls2 := [(0, vR x0), (1, vI x1), (2, vR x2), (3, vI x3), (4, vR x4), (5, vI (w32 (x5 + 1)))]) [1, 2, 3, 4, 5, 0] rfl h

def LL_said_17 (G : Gl) (x0 : Nat) (x2 : Int) (x3 : Nat) (x4 : Int) (S : Sh) (I : MI) (R : MR) (Q : Sh → MI → MR → Nat → Prop) : Prop := E G ML_said 17 [(0, vR x0), (2, vI x2), (3, vR x3), (4, vI x4)] [] S I R (qR Q)
set_option maxRecDepth 100000 in
set_option maxHeartbeats 4000000 in
theorem bL_said {G : Gl} {S : Sh} {I : MI} {R : MR} {Q : Sh → MI → MR → Nat → Prop} {x0 : Nat} {x1 : Int} (h : (sT S x0 = 9 ∧ (CI G MX9_show [vR x0, vI x1] S I R (fun S2 I2 R2 x2_ => (∀ S6 I6 R6, S6 = shNew S2 11 0 4 → I6 = mNew I2 (sN S2) 0 → R6 = mNew R2 (sN S2) 0 → (sT S6 (sN S2) ≠ 0 ∧ (CV G MJ4_init_da8c8 [vR (sN S2)] S6 I6 R6 (fun S10 I10 R10 => LL_said_17 G x0 x2_ (sN S2) 0 S10 I10 R10 Q)))))))) : CR G ML_said [vR x0, vI x1] S I R Q := by
  show E G ML_said 0 [(0, vR x0), (1, vI x1)] [] S I R (qR Q)
  refine e_aload_n 0 dL_said_0 rfl ?_
  refine e_iload_n 1 dL_said_1 rfl ?_
  have o1 := h.1
  replace h := h.2
  refine i_VI (μ' := MX9_show) (ci := 8) (r := x0) (as := [vI x1]) (st := []) rfl dL_said_2 mOKX9_show ⟨mlL_33, imX9_show, seX9_show⟩ (by decide) (Nat.le_of_ble_eq_true rfl) rfl (Nat.le_of_ble_eq_true rfl) ⟨by decide, rfl⟩ o1 (CI.mono h ?_)
  clear h
  intro S2 I2 R2 x2_ h
  refine e_istore_n (ls2 := [(2, vI x2_), (0, vR x0), (1, vI x1)]) dL_said_5 (by decide) rfl ?_
  obtain ⟨S6, eS6⟩ : ∃ z : Sh, z = shNew S2 11 0 4 := ⟨_, rfl⟩
  obtain ⟨I6, eI6⟩ : ∃ z : MI, z = mNew I2 (sN S2) 0 := ⟨_, rfl⟩
  obtain ⟨R6, eR6⟩ : ∃ z : MR, z = mNew R2 (sN S2) 0 := ⟨_, rfl⟩
  replace h := h S6 I6 R6 eS6 eI6 eR6
  refine e_new (ci := 10) dL_said_6 (by decide) ⟨clL_36, is10, ii10⟩ (eqS eS6 (eqI eI6 (eqR eR6 ?_)))
  refine e_dup dL_said_9 rfl ?_
  have o2 := h.1
  replace h := h.2
  refine i_IV (μ' := MJ4_init_da8c8) (r := (sN S2)) (as := []) (st := [vR (sN S2)]) rfl dL_said_10 mOKJ4_init_da8c8 ⟨mlL_38, imJ4_init_da8c8⟩ ⟨rfl, rfl⟩ (by decide) (Nat.le_of_ble_eq_true rfl) rfl (Nat.le_of_ble_eq_true rfl) o2 (CV.mono h ?_)
  clear h
  intro S10 I10 R10 h
  refine e_astore_n (ls2 := [(3, vR (sN S2)), (2, vI x2_), (0, vR x0), (1, vI x1)]) dL_said_13 (by decide) rfl ?_
  refine e_iconst dL_said_14 (by unfold InR; decide) ?_
  refine e_istore (ls2 := [(4, vI 0), (3, vR (sN S2)), (2, vI x2_), (0, vR x0), (1, vI x1)]) dL_said_15 (by decide) rfl ?_
  exact e_sub (ls2 := [(0, vR x0), (2, vI x2_), (3, vR (sN S2)), (4, vI 0)]) [3, 2, 1, 0] rfl h
set_option maxRecDepth 100000 in
set_option maxHeartbeats 4000000 in
theorem bL_said_17 {G : Gl} {S : Sh} {I : MI} {R : MR} {Q : Sh → MI → MR → Nat → Prop} {x0 : Nat} {x2 : Int} {x3 : Nat} {x4 : Int} (h : ((x2 ≤ x4 → (sT S x3 = 11 ∧ (CR G MJ4_toString_0e30d [vR x3] S I R (fun S42 I42 R42 x42_ => Q S42 I42 R42 x42_)))) ∧ (¬ (x2 ≤ x4) → (sT S x0 = 9 ∧ (CI G MX9_out [vR x0, vI x4] S I R (fun S27 I27 R27 x27_ => (sT S27 x3 = 11 ∧ (CR G MJ4_append_cf468 [vR x3, vI (i2c x27_)] S27 I27 R27 (fun S31 I31 R31 x31_ => LL_said_17 G x0 x2 x3 (w32 (x4 + 1)) S31 I31 R31 Q))))))))) : LL_said_17 G x0 x2 x3 x4 S I R Q := by
  show E G ML_said 17 [(0, vR x0), (2, vI x2), (3, vR x3), (4, vI x4)] [] S I R (qR Q)
  refine e_iload 3 dL_said_17 rfl ?_
  refine e_iload_n 1 dL_said_19 rfl ?_
  refine e_icmp_ge (tgt := 41) dL_said_20 (by decide) (fun c => ?_) (fun c => ?_)
  · replace h := h.1 c
    refine e_aload_n 2 dL_said_41 rfl ?_
    have o3 := h.1
    replace h := h.2
    refine i_VR (μ' := MJ4_toString_0e30d) (ci := 10) (r := x3) (as := []) (st := []) rfl dL_said_42 mOKJ4_toString_0e30d ⟨mlL_46, imJ4_toString_0e30d, seJ4_toString_0e30d⟩ (by decide) (Nat.le_of_ble_eq_true rfl) rfl (Nat.le_of_ble_eq_true rfl) ⟨by decide, rfl⟩ o3 (CR.mono h ?_)
    clear h
    intro S42 I42 R42 x42_ h
    exact e_areturn (C := "") dL_said_45 ⟨_, rfl⟩ ⟨_, rfl, h⟩
  · replace h := h.2 c
    refine e_aload_n 2 dL_said_23 rfl ?_
    refine e_aload_n 0 dL_said_24 rfl ?_
    refine e_iload 3 dL_said_25 rfl ?_
    have o4 := h.1
    replace h := h.2
    refine i_VI (μ' := MX9_out) (ci := 8) (r := x0) (as := [vI x4]) (st := [vR x3]) rfl dL_said_27 mOKX9_out ⟨mlL_39, imX9_out, seX9_out⟩ (by decide) (Nat.le_of_ble_eq_true rfl) rfl (Nat.le_of_ble_eq_true rfl) ⟨by decide, rfl⟩ o4 (CI.mono h ?_)
    clear h
    intro S27 I27 R27 x27_ h
    refine e_i2c dL_said_30 ?_
    have o5 := h.1
    replace h := h.2
    refine i_VR (μ' := MJ4_append_cf468) (ci := 10) (r := x3) (as := [vI (i2c x27_)]) (st := []) rfl dL_said_31 mOKJ4_append_cf468 ⟨mlL_42, imJ4_append_cf468, seJ4_append_cf468⟩ (by decide) (Nat.le_of_ble_eq_true rfl) rfl (Nat.le_of_ble_eq_true rfl) ⟨by decide, rfl⟩ o5 (CR.mono h ?_)
    clear h
    intro S31 I31 R31 x31_ h
    refine e_pop dL_said_34 rfl ?_
    refine e_iinc (ls2 := [(4, vI (w32 (x4 + 1))), (0, vR x0), (2, vI x2), (3, vR x3)]) 3 dL_said_35 rfl (by decide) rfl ?_
    refine e_goto (tgt := 17) dL_said_38 (by decide) ?_
    exact e_sub (ls2 := [(0, vR x0), (2, vI x2), (3, vR x3), (4, vI (w32 (x4 + 1)))]) [1, 2, 3, 0] rfl h

def LL_drawn_12 (G : Gl) (x0 : Int) (x1 : Int) (x2 : Int) (x3 : Int) (x4 : Int) (x5 : Nat) (x6 : Int) (S : Sh) (I : MI) (R : MR) (Q : Sh → MI → MR → Nat → Prop) : Prop := E G ML_drawn 12 [(0, vI x0), (1, vI x1), (2, vI x2), (3, vI x3), (4, vI x4), (5, vR x5), (6, vI x6)] [] S I R (qR Q)
def LL_drawn_75 (G : Gl) (x0 : Int) (x1 : Int) (x2 : Int) (x3 : Int) (x4 : Int) (x5 : Nat) (x6 : Int) (x7 : Int) (x8 : Int) (y0 : Int) (S : Sh) (I : MI) (R : MR) (Q : Sh → MI → MR → Nat → Prop) : Prop := E G ML_drawn 75 [(0, vI x0), (1, vI x1), (2, vI x2), (3, vI x3), (4, vI x4), (5, vR x5), (6, vI x6), (7, vI x7), (8, vI x8)] [vI y0] S I R (qR Q)
def LL_drawn_113 (G : Gl) (x0 : Int) (x1 : Int) (x2 : Int) (x3 : Int) (x4 : Int) (x5 : Nat) (x6 : Int) (x7 : Int) (x8 : Int) (x9 : Int) (y0 : Int) (S : Sh) (I : MI) (R : MR) (Q : Sh → MI → MR → Nat → Prop) : Prop := E G ML_drawn 113 [(0, vI x0), (1, vI x1), (2, vI x2), (3, vI x3), (4, vI x4), (5, vR x5), (6, vI x6), (7, vI x7), (8, vI x8), (9, vI x9)] [vI y0] S I R (qR Q)
def LL_drawn_141 (G : Gl) (x0 : Int) (x1 : Int) (x2 : Int) (x3 : Int) (x4 : Int) (x5 : Nat) (x6 : Int) (x7 : Int) (x8 : Int) (x9 : Int) (x10 : Int) (y0 : Nat) (y1 : Nat) (S : Sh) (I : MI) (R : MR) (Q : Sh → MI → MR → Nat → Prop) : Prop := E G ML_drawn 141 [(0, vI x0), (1, vI x1), (2, vI x2), (3, vI x3), (4, vI x4), (5, vR x5), (6, vI x6), (7, vI x7), (8, vI x8), (9, vI x9), (10, vI x10)] [vO (y0 + 1), vR y1] S I R (qR Q)
def LL_drawn_195 (G : Gl) (x0 : Int) (x1 : Int) (x2 : Int) (x3 : Int) (x4 : Int) (x5 : Nat) (x6 : Int) (x8 : Int) (x9 : Int) (x10 : Int) (S : Sh) (I : MI) (R : MR) (Q : Sh → MI → MR → Nat → Prop) : Prop := E G ML_drawn 195 [(0, vI x0), (1, vI x1), (2, vI x2), (3, vI x3), (4, vI x4), (5, vR x5), (6, vI x6), (8, vI x8), (9, vI x9), (10, vI x10)] [] S I R (qR Q)
set_option maxRecDepth 100000 in
set_option maxHeartbeats 4000000 in
theorem bL_drawn {G : Gl} {S : Sh} {I : MI} {R : MR} {Q : Sh → MI → MR → Nat → Prop} {x0 : Int} {x1 : Int} {x2 : Int} {x3 : Int} {x4 : Int} (h : (∀ S0 I0 R0, S0 = shNew S 11 0 4 → I0 = mNew I (sN S) 0 → R0 = mNew R (sN S) 0 → (sT S0 (sN S) ≠ 0 ∧ (CV G MJ4_init_da8c8 [vR (sN S)] S0 I0 R0 (fun S4 I4 R4 => LL_drawn_12 G x0 x1 x2 x3 x4 (sN S) 0 S4 I4 R4 Q))))) : CR G ML_drawn [vI x0, vI x1, vI x2, vI x3, vI x4] S I R Q := by
  show E G ML_drawn 0 [(0, vI x0), (1, vI x1), (2, vI x2), (3, vI x3), (4, vI x4)] [] S I R (qR Q)
  obtain ⟨S0, eS0⟩ : ∃ z : Sh, z = shNew S 11 0 4 := ⟨_, rfl⟩
  obtain ⟨I0, eI0⟩ : ∃ z : MI, z = mNew I (sN S) 0 := ⟨_, rfl⟩
  obtain ⟨R0, eR0⟩ : ∃ z : MR, z = mNew R (sN S) 0 := ⟨_, rfl⟩
  replace h := h S0 I0 R0 eS0 eI0 eR0
  refine e_new (ci := 10) dL_drawn_0 (by decide) ⟨clL_36, is10, ii10⟩ (eqS eS0 (eqI eI0 (eqR eR0 ?_)))
  refine e_dup dL_drawn_3 rfl ?_
  have o1 := h.1
  replace h := h.2
  refine i_IV (μ' := MJ4_init_da8c8) (r := (sN S)) (as := []) (st := [vR (sN S)]) rfl dL_drawn_4 mOKJ4_init_da8c8 ⟨mlL_38, imJ4_init_da8c8⟩ ⟨rfl, rfl⟩ (by decide) (Nat.le_of_ble_eq_true rfl) rfl (Nat.le_of_ble_eq_true rfl) o1 (CV.mono h ?_)
  clear h
  intro S4 I4 R4 h
  refine e_astore (ls2 := [(5, vR (sN S)), (0, vI x0), (1, vI x1), (2, vI x2), (3, vI x3), (4, vI x4)]) dL_drawn_7 (by decide) rfl ?_
  refine e_iconst dL_drawn_9 (by unfold InR; decide) ?_
  refine e_istore (ls2 := [(6, vI 0), (5, vR (sN S)), (0, vI x0), (1, vI x1), (2, vI x2), (3, vI x3), (4, vI x4)]) dL_drawn_10 (by decide) rfl ?_
  exact e_sub (ls2 := [(0, vI x0), (1, vI x1), (2, vI x2), (3, vI x3), (4, vI x4), (5, vR (sN S)), (6, vI 0)]) [2, 3, 4, 5, 6, 1, 0] rfl h
set_option maxRecDepth 100000 in
set_option maxHeartbeats 4000000 in
theorem bL_drawn_12 {G : Gl} {S : Sh} {I : MI} {R : MR} {Q : Sh → MI → MR → Nat → Prop} {x0 : Int} {x1 : Int} {x2 : Int} {x3 : Int} {x4 : Int} {x5 : Nat} {x6 : Int} (h : ((x3 ≤ x6 → (sT S x5 = 11 ∧ (CR G MJ4_toString_0e30d [vR x5] S I R (fun S237 I237 R237 x237_ => Q S237 I237 R237 x237_)))) ∧ (¬ (x3 ≤ x6) → ((pL_between (ishr (w32 ((w32 ((w32 (x0 * (w32 ((w32 (2 * x6)) + 1)))) + (w32 (x1 * (w32 (x6 + 3)))))) + (w32 (77 * x6)))) 2) 0 2) ∧ ((x2 ≠ 1 → ((pL_between (ishr (w32 ((w32 ((w32 (x0 * (w32 ((w32 (2 * x6)) + 1)))) + (w32 (x1 * (w32 (x6 + 3)))))) + (w32 (77 * x6)))) 4) 0 (w32 (x4 + (vL_between (ishr (w32 ((w32 ((w32 (x0 * (w32 ((w32 (2 * x6)) + 1)))) + (w32 (x1 * (w32 (x6 + 3)))))) + (w32 (77 * x6)))) 2) 0 2)))) ∧ LL_drawn_75 G x0 x1 x2 x3 x4 x5 x6 (w32 ((w32 ((w32 (x0 * (w32 ((w32 (2 * x6)) + 1)))) + (w32 (x1 * (w32 (x6 + 3)))))) + (w32 (77 * x6)))) (w32 (x4 + (vL_between (ishr (w32 ((w32 ((w32 (x0 * (w32 ((w32 (2 * x6)) + 1)))) + (w32 (x1 * (w32 (x6 + 3)))))) + (w32 (77 * x6)))) 2) 0 2))) (vL_between (ishr (w32 ((w32 ((w32 (x0 * (w32 ((w32 (2 * x6)) + 1)))) + (w32 (x1 * (w32 (x6 + 3)))))) + (w32 (77 * x6)))) 4) 0 (w32 (x4 + (vL_between (ishr (w32 ((w32 ((w32 (x0 * (w32 ((w32 (2 * x6)) + 1)))) + (w32 (x1 * (w32 (x6 + 3)))))) + (w32 (77 * x6)))) 2) 0 2)))) S I R Q)) ∧ (¬ (x2 ≠ 1) → LL_drawn_75 G x0 x1 x2 x3 x4 x5 x6 (w32 ((w32 ((w32 (x0 * (w32 ((w32 (2 * x6)) + 1)))) + (w32 (x1 * (w32 (x6 + 3)))))) + (w32 (77 * x6)))) (w32 (x4 + (vL_between (ishr (w32 ((w32 ((w32 (x0 * (w32 ((w32 (2 * x6)) + 1)))) + (w32 (x1 * (w32 (x6 + 3)))))) + (w32 (77 * x6)))) 2) 0 2))) (w32 (x4 + (vL_between (ishr (w32 ((w32 ((w32 (x0 * (w32 ((w32 (2 * x6)) + 1)))) + (w32 (x1 * (w32 (x6 + 3)))))) + (w32 (77 * x6)))) 2) 0 2))) S I R Q)))))) : LL_drawn_12 G x0 x1 x2 x3 x4 x5 x6 S I R Q := by
  show E G ML_drawn 12 [(0, vI x0), (1, vI x1), (2, vI x2), (3, vI x3), (4, vI x4), (5, vR x5), (6, vI x6)] [] S I R (qR Q)
  refine e_iload 6 dL_drawn_12 rfl ?_
  refine e_iload_n 3 dL_drawn_14 rfl ?_
  refine e_icmp_ge (tgt := 235) dL_drawn_15 (by decide) (fun c => ?_) (fun c => ?_)
  · replace h := h.1 c
    refine e_aload 5 dL_drawn_235 rfl ?_
    have o2 := h.1
    replace h := h.2
    refine i_VR (μ' := MJ4_toString_0e30d) (ci := 10) (r := x5) (as := []) (st := []) rfl dL_drawn_237 mOKJ4_toString_0e30d ⟨mlL_46, imJ4_toString_0e30d, seJ4_toString_0e30d⟩ (by decide) (Nat.le_of_ble_eq_true rfl) rfl (Nat.le_of_ble_eq_true rfl) ⟨by decide, rfl⟩ o2 (CR.mono h ?_)
    clear h
    intro S237 I237 R237 x237_ h
    exact e_areturn (C := "") dL_drawn_240 ⟨_, rfl⟩ ⟨_, rfl, h⟩
  · replace h := h.2 c
    refine e_iload_n 0 dL_drawn_18 rfl ?_
    refine e_iconst dL_drawn_19 (by unfold InR; decide) ?_
    refine e_iload 6 dL_drawn_20 rfl ?_
    refine e_imul dL_drawn_22 ?_
    refine e_iconst dL_drawn_23 (by unfold InR; decide) ?_
    refine e_iadd dL_drawn_24 ?_
    refine e_imul dL_drawn_25 ?_
    refine e_iload_n 1 dL_drawn_26 rfl ?_
    refine e_iload 6 dL_drawn_27 rfl ?_
    refine e_iconst dL_drawn_29 (by unfold InR; decide) ?_
    refine e_iadd dL_drawn_30 ?_
    refine e_imul dL_drawn_31 ?_
    refine e_iadd dL_drawn_32 ?_
    refine e_bipush (x := 77) dL_drawn_33 ⟨by decide +kernel, by unfold InR; decide⟩ ?_
    refine e_iload 6 dL_drawn_35 rfl ?_
    refine e_imul dL_drawn_37 ?_
    refine e_iadd dL_drawn_38 ?_
    refine e_istore (ls2 := [(7, vI (w32 ((w32 ((w32 (x0 * (w32 ((w32 (2 * x6)) + 1)))) + (w32 (x1 * (w32 (x6 + 3)))))) + (w32 (77 * x6))))), (0, vI x0), (1, vI x1), (2, vI x2), (3, vI x3), (4, vI x4), (5, vR x5), (6, vI x6)]) dL_drawn_39 (by decide) rfl ?_
    refine e_iload 5 dL_drawn_41 rfl ?_
    refine e_iload 0 dL_drawn_43 rfl ?_
    refine e_iconst dL_drawn_45 (by unfold InR; decide) ?_
    refine e_ishr dL_drawn_46 ?_
    refine e_iconst dL_drawn_47 (by unfold InR; decide) ?_
    refine e_iconst dL_drawn_48 (by unfold InR; decide) ?_
    have o3 := h.1
    replace h := h.2
    refine i_SI (μ' := ML_between) (as := [vI (ishr (w32 ((w32 ((w32 (x0 * (w32 ((w32 (2 * x6)) + 1)))) + (w32 (x1 * (w32 (x6 + 3)))))) + (w32 (77 * x6)))) 2), vI 0, vI 2]) (st := [vI x4]) rfl dL_drawn_49 mOKL_between ⟨mlL_50, stL_between⟩ (by decide) (Nat.le_of_ble_eq_true rfl) rfl (Nat.le_of_ble_eq_true rfl) (sL_between o3 ?_)
    refine e_iadd dL_drawn_52 ?_
    refine e_istore (ls2 := [(8, vI (w32 (x4 + (vL_between (ishr (w32 ((w32 ((w32 (x0 * (w32 ((w32 (2 * x6)) + 1)))) + (w32 (x1 * (w32 (x6 + 3)))))) + (w32 (77 * x6)))) 2) 0 2)))), (7, vI (w32 ((w32 ((w32 (x0 * (w32 ((w32 (2 * x6)) + 1)))) + (w32 (x1 * (w32 (x6 + 3)))))) + (w32 (77 * x6))))), (0, vI x0), (1, vI x1), (2, vI x2), (3, vI x3), (4, vI x4), (5, vR x5), (6, vI x6)]) dL_drawn_53 (by decide) rfl ?_
    refine e_iload_n 4 dL_drawn_55 rfl ?_
    refine e_iconst dL_drawn_56 (by unfold InR; decide) ?_
    refine e_icmp_ne (tgt := 65) dL_drawn_57 (by decide) (fun c => ?_) (fun c => ?_)
    · replace h := h.1 c
      refine e_iload 1 dL_drawn_65 rfl ?_
      refine e_iconst dL_drawn_67 (by unfold InR; decide) ?_
      refine e_ishr dL_drawn_68 ?_
      refine e_iconst dL_drawn_69 (by unfold InR; decide) ?_
      refine e_iload 0 dL_drawn_70 rfl ?_
      have o4 := h.1
      replace h := h.2
      refine i_SI (μ' := ML_between) (as := [vI (ishr (w32 ((w32 ((w32 (x0 * (w32 ((w32 (2 * x6)) + 1)))) + (w32 (x1 * (w32 (x6 + 3)))))) + (w32 (77 * x6)))) 4), vI 0, vI (w32 (x4 + (vL_between (ishr (w32 ((w32 ((w32 (x0 * (w32 ((w32 (2 * x6)) + 1)))) + (w32 (x1 * (w32 (x6 + 3)))))) + (w32 (77 * x6)))) 2) 0 2)))]) (st := []) rfl dL_drawn_72 mOKL_between ⟨mlL_50, stL_between⟩ (by decide) (Nat.le_of_ble_eq_true rfl) rfl (Nat.le_of_ble_eq_true rfl) (sL_between o4 ?_)
      exact e_sub (ls2 := [(0, vI x0), (1, vI x1), (2, vI x2), (3, vI x3), (4, vI x4), (5, vR x5), (6, vI x6), (7, vI (w32 ((w32 ((w32 (x0 * (w32 ((w32 (2 * x6)) + 1)))) + (w32 (x1 * (w32 (x6 + 3)))))) + (w32 (77 * x6))))), (8, vI (w32 (x4 + (vL_between (ishr (w32 ((w32 ((w32 (x0 * (w32 ((w32 (2 * x6)) + 1)))) + (w32 (x1 * (w32 (x6 + 3)))))) + (w32 (77 * x6)))) 2) 0 2))))]) [2, 3, 4, 5, 6, 7, 8, 1, 0] rfl h
    · replace h := h.2 c
      refine e_iload 0 dL_drawn_60 rfl ?_
      refine e_goto (tgt := 75) dL_drawn_62 (by decide) ?_
      exact e_sub (ls2 := [(0, vI x0), (1, vI x1), (2, vI x2), (3, vI x3), (4, vI x4), (5, vR x5), (6, vI x6), (7, vI (w32 ((w32 ((w32 (x0 * (w32 ((w32 (2 * x6)) + 1)))) + (w32 (x1 * (w32 (x6 + 3)))))) + (w32 (77 * x6))))), (8, vI (w32 (x4 + (vL_between (ishr (w32 ((w32 ((w32 (x0 * (w32 ((w32 (2 * x6)) + 1)))) + (w32 (x1 * (w32 (x6 + 3)))))) + (w32 (77 * x6)))) 2) 0 2))))]) [2, 3, 4, 5, 6, 7, 8, 1, 0] rfl h
set_option maxRecDepth 100000 in
set_option maxHeartbeats 4000000 in
theorem bL_drawn_75 {G : Gl} {S : Sh} {I : MI} {R : MR} {Q : Sh → MI → MR → Nat → Prop} {x0 : Int} {x1 : Int} {x2 : Int} {x3 : Int} {x4 : Int} {x5 : Nat} {x6 : Int} {x7 : Int} {x8 : Int} {y0 : Int} (h : ((x2 ≠ 1 → ((x2 ≠ 2 → ((pL_between (ishr x7 9) 0 (w32 (x8 - y0))) ∧ LL_drawn_113 G x0 x1 x2 x3 x4 x5 x6 x7 x8 y0 (vL_between (ishr x7 9) 0 (w32 (x8 - y0))) S I R Q)) ∧ (¬ (x2 ≠ 2) → LL_drawn_113 G x0 x1 x2 x3 x4 x5 x6 x7 x8 y0 (w32 (x8 - y0)) S I R Q))) ∧ (¬ (x2 ≠ 1) → LL_drawn_113 G x0 x1 x2 x3 x4 x5 x6 x7 x8 y0 0 S I R Q))) : LL_drawn_75 G x0 x1 x2 x3 x4 x5 x6 x7 x8 y0 S I R Q := by
  show E G ML_drawn 75 [(0, vI x0), (1, vI x1), (2, vI x2), (3, vI x3), (4, vI x4), (5, vR x5), (6, vI x6), (7, vI x7), (8, vI x8)] [vI y0] S I R (qR Q)
  refine e_istore (ls2 := [(9, vI y0), (0, vI x0), (1, vI x1), (2, vI x2), (3, vI x3), (4, vI x4), (5, vR x5), (6, vI x6), (7, vI x7), (8, vI x8)]) dL_drawn_75 (by decide) rfl ?_
  refine e_iload_n 3 dL_drawn_77 rfl ?_
  refine e_iconst dL_drawn_78 (by unfold InR; decide) ?_
  refine e_icmp_ne (tgt := 86) dL_drawn_79 (by decide) (fun c => ?_) (fun c => ?_)
  · replace h := h.1 c
    refine e_iload_n 3 dL_drawn_86 rfl ?_
    refine e_iconst dL_drawn_87 (by unfold InR; decide) ?_
    refine e_icmp_ne (tgt := 99) dL_drawn_88 (by decide) (fun c => ?_) (fun c => ?_)
    · replace h := h.1 c
      refine e_iload 8 dL_drawn_99 rfl ?_
      refine e_bipush (x := 9) dL_drawn_101 ⟨by decide +kernel, by unfold InR; decide⟩ ?_
      refine e_ishr dL_drawn_103 ?_
      refine e_iconst dL_drawn_104 (by unfold InR; decide) ?_
      refine e_iload 9 dL_drawn_105 rfl ?_
      refine e_iload 0 dL_drawn_107 rfl ?_
      refine e_isub dL_drawn_109 ?_
      have o5 := h.1
      replace h := h.2
      refine i_SI (μ' := ML_between) (as := [vI (ishr x7 9), vI 0, vI (w32 (x8 - y0))]) (st := []) rfl dL_drawn_110 mOKL_between ⟨mlL_50, stL_between⟩ (by decide) (Nat.le_of_ble_eq_true rfl) rfl (Nat.le_of_ble_eq_true rfl) (sL_between o5 ?_)
      exact e_sub (ls2 := [(0, vI x0), (1, vI x1), (2, vI x2), (3, vI x3), (4, vI x4), (5, vR x5), (6, vI x6), (7, vI x7), (8, vI x8), (9, vI y0)]) [1, 2, 3, 4, 5, 6, 7, 8, 9, 0] rfl h
    · replace h := h.2 c
      refine e_iload 9 dL_drawn_91 rfl ?_
      refine e_iload 0 dL_drawn_93 rfl ?_
      refine e_isub dL_drawn_95 ?_
      refine e_goto (tgt := 113) dL_drawn_96 (by decide) ?_
      exact e_sub (ls2 := [(0, vI x0), (1, vI x1), (2, vI x2), (3, vI x3), (4, vI x4), (5, vR x5), (6, vI x6), (7, vI x7), (8, vI x8), (9, vI y0)]) [1, 2, 3, 4, 5, 6, 7, 8, 9, 0] rfl h
  · replace h := h.2 c
    refine e_iconst dL_drawn_82 (by unfold InR; decide) ?_
    refine e_goto (tgt := 113) dL_drawn_83 (by decide) ?_
    exact e_sub (ls2 := [(0, vI x0), (1, vI x1), (2, vI x2), (3, vI x3), (4, vI x4), (5, vR x5), (6, vI x6), (7, vI x7), (8, vI x8), (9, vI y0)]) [1, 2, 3, 4, 5, 6, 7, 8, 9, 0] rfl h
set_option maxRecDepth 100000 in
set_option maxHeartbeats 4000000 in
theorem bL_drawn_113 {G : Gl} {S : Sh} {I : MI} {R : MR} {Q : Sh → MI → MR → Nat → Prop} {x0 : Int} {x1 : Int} {x2 : Int} {x3 : Int} {x4 : Int} {x5 : Nat} {x6 : Int} {x7 : Int} {x8 : Int} {x9 : Int} {y0 : Int} (h : ((x6 ≠ 0 → (((iand x7 1) ≠ 0 → LL_drawn_141 G x0 x1 x2 x3 x4 x5 x6 x7 x8 x9 y0 2 x5 S I R Q) ∧ (¬ ((iand x7 1) ≠ 0) → LL_drawn_141 G x0 x1 x2 x3 x4 x5 x6 x7 x8 x9 y0 1 x5 S I R Q))) ∧ (¬ (x6 ≠ 0) → LL_drawn_141 G x0 x1 x2 x3 x4 x5 x6 x7 x8 x9 y0 0 x5 S I R Q))) : LL_drawn_113 G x0 x1 x2 x3 x4 x5 x6 x7 x8 x9 y0 S I R Q := by
  show E G ML_drawn 113 [(0, vI x0), (1, vI x1), (2, vI x2), (3, vI x3), (4, vI x4), (5, vR x5), (6, vI x6), (7, vI x7), (8, vI x8), (9, vI x9)] [vI y0] S I R (qR Q)
  refine e_istore (ls2 := [(10, vI y0), (0, vI x0), (1, vI x1), (2, vI x2), (3, vI x3), (4, vI x4), (5, vR x5), (6, vI x6), (7, vI x7), (8, vI x8), (9, vI x9)]) dL_drawn_113 (by decide) rfl ?_
  refine e_aload 6 dL_drawn_115 rfl ?_
  refine e_iload 7 dL_drawn_117 rfl ?_
  refine e_if_ne (tgt := 127) dL_drawn_119 (by decide) (fun c => ?_) (fun c => ?_)
  · replace h := h.1 c
    refine e_iload 8 dL_drawn_127 rfl ?_
    refine e_iconst dL_drawn_129 (by unfold InR; decide) ?_
    refine e_iand dL_drawn_130 ?_
    refine e_if_ne (tgt := 139) dL_drawn_131 (by decide) (fun c => ?_) (fun c => ?_)
    · replace h := h.1 c
      refine e_ldcS (j := 2) (by decide) rfl dL_drawn_139 ?_
      exact e_sub (ls2 := [(0, vI x0), (1, vI x1), (2, vI x2), (3, vI x3), (4, vI x4), (5, vR x5), (6, vI x6), (7, vI x7), (8, vI x8), (9, vI x9), (10, vI y0)]) [1, 2, 3, 4, 5, 6, 7, 8, 9, 10, 0] rfl h
    · replace h := h.2 c
      refine e_ldcS (j := 1) (by decide) rfl dL_drawn_134 ?_
      refine e_goto (tgt := 141) dL_drawn_136 (by decide) ?_
      exact e_sub (ls2 := [(0, vI x0), (1, vI x1), (2, vI x2), (3, vI x3), (4, vI x4), (5, vR x5), (6, vI x6), (7, vI x7), (8, vI x8), (9, vI x9), (10, vI y0)]) [1, 2, 3, 4, 5, 6, 7, 8, 9, 10, 0] rfl h
  · replace h := h.2 c
    refine e_ldcS (j := 0) (by decide) rfl dL_drawn_122 ?_
    refine e_goto (tgt := 141) dL_drawn_124 (by decide) ?_
    exact e_sub (ls2 := [(0, vI x0), (1, vI x1), (2, vI x2), (3, vI x3), (4, vI x4), (5, vR x5), (6, vI x6), (7, vI x7), (8, vI x8), (9, vI x9), (10, vI y0)]) [1, 2, 3, 4, 5, 6, 7, 8, 9, 10, 0] rfl h
set_option maxRecDepth 100000 in
set_option maxHeartbeats 4000000 in
theorem bL_drawn_141 {G : Gl} {S : Sh} {I : MI} {R : MR} {Q : Sh → MI → MR → Nat → Prop} {x0 : Int} {x1 : Int} {x2 : Int} {x3 : Int} {x4 : Int} {x5 : Nat} {x6 : Int} {x7 : Int} {x8 : Int} {x9 : Int} {x10 : Int} {y0 : Nat} {y1 : Nat} (h : (sT S y1 = 11 ∧ (CR G MJ4_append_15ec4 [vR y1, vO (y0 + 1)] S I R (fun S141 I141 R141 x141_ => ((pL_between (ishr x7 12) 1 9) ∧ (sT S141 x141_ = 11 ∧ (CR G MJ4_append_bf812 [vR x141_, vI (vL_between (ishr x7 12) 1 9)] S141 I141 R141 (fun S155 I155 R155 x155_ => ((x9 ≤ 0 → ((x10 ≤ 0 → LL_drawn_195 G x0 x1 x2 x3 x4 x5 x6 x8 x9 x10 S155 I155 R155 Q) ∧ (¬ (x10 ≤ 0) → (sT S155 x5 = 11 ∧ (CR G MJ4_append_15ec4 [vR x5, vO (4 + 1)] S155 I155 R155 (fun S186 I186 R186 x186_ => (sT S186 x186_ = 11 ∧ (CR G MJ4_append_bf812 [vR x186_, vI x10] S186 I186 R186 (fun S191 I191 R191 x191_ => LL_drawn_195 G x0 x1 x2 x3 x4 x5 x6 x8 x9 x10 S191 I191 R191 Q))))))))) ∧ (¬ (x9 ≤ 0) → (sT S155 x5 = 11 ∧ (CR G MJ4_append_15ec4 [vR x5, vO (3 + 1)] S155 I155 R155 (fun S168 I168 R168 x168_ => (sT S168 x168_ = 11 ∧ (CR G MJ4_append_bf812 [vR x168_, vI x9] S168 I168 R168 (fun S173 I173 R173 x173_ => ((x10 ≤ 0 → LL_drawn_195 G x0 x1 x2 x3 x4 x5 x6 x8 x9 x10 S173 I173 R173 Q) ∧ (¬ (x10 ≤ 0) → (sT S173 x5 = 11 ∧ (CR G MJ4_append_15ec4 [vR x5, vO (4 + 1)] S173 I173 R173 (fun S186 I186 R186 x186_ => (sT S186 x186_ = 11 ∧ (CR G MJ4_append_bf812 [vR x186_, vI x10] S186 I186 R186 (fun S191 I191 R191 x191_ => LL_drawn_195 G x0 x1 x2 x3 x4 x5 x6 x8 x9 x10 S191 I191 R191 Q)))))))))))))))))))))))) : LL_drawn_141 G x0 x1 x2 x3 x4 x5 x6 x7 x8 x9 x10 y0 y1 S I R Q := by
  show E G ML_drawn 141 [(0, vI x0), (1, vI x1), (2, vI x2), (3, vI x3), (4, vI x4), (5, vR x5), (6, vI x6), (7, vI x7), (8, vI x8), (9, vI x9), (10, vI x10)] [vO (y0 + 1), vR y1] S I R (qR Q)
  have o6 := h.1
  replace h := h.2
  refine i_VR (μ' := MJ4_append_15ec4) (ci := 10) (r := y1) (as := [vO (y0 + 1)]) (st := []) rfl dL_drawn_141 mOKJ4_append_15ec4 ⟨mlL_62, imJ4_append_15ec4, seJ4_append_15ec4⟩ (by decide) (Nat.le_of_ble_eq_true rfl) rfl (Nat.le_of_ble_eq_true rfl) ⟨by decide, rfl⟩ o6 (CR.mono h ?_)
  clear h
  intro S141 I141 R141 x141_ h
  refine e_iload 7 dL_drawn_144 rfl ?_
  refine e_bipush (x := 12) dL_drawn_146 ⟨by decide +kernel, by unfold InR; decide⟩ ?_
  refine e_ishr dL_drawn_148 ?_
  refine e_iconst dL_drawn_149 (by unfold InR; decide) ?_
  refine e_bipush (x := 9) dL_drawn_150 ⟨by decide +kernel, by unfold InR; decide⟩ ?_
  have o7 := h.1
  replace h := h.2
  refine i_SI (μ' := ML_between) (as := [vI (ishr x7 12), vI 1, vI 9]) (st := [vR x141_]) rfl dL_drawn_152 mOKL_between ⟨mlL_50, stL_between⟩ (by decide) (Nat.le_of_ble_eq_true rfl) rfl (Nat.le_of_ble_eq_true rfl) (sL_between o7 ?_)
  have o8 := h.1
  replace h := h.2
  refine i_VR (μ' := MJ4_append_bf812) (ci := 10) (r := x141_) (as := [vI (vL_between (ishr x7 12) 1 9)]) (st := []) rfl dL_drawn_155 mOKJ4_append_bf812 ⟨mlL_65, imJ4_append_bf812, seJ4_append_bf812⟩ (by decide) (Nat.le_of_ble_eq_true rfl) rfl (Nat.le_of_ble_eq_true rfl) ⟨by decide, rfl⟩ o8 (CR.mono h ?_)
  clear h
  intro S155 I155 R155 x155_ h
  refine e_pop dL_drawn_158 rfl ?_
  refine e_iload 9 dL_drawn_159 rfl ?_
  refine e_if_le (tgt := 177) dL_drawn_161 (by decide) (fun c => ?_) (fun c => ?_)
  · replace h := h.1 c
    refine e_iload 10 dL_drawn_177 rfl ?_
    refine e_if_le (tgt := 195) dL_drawn_179 (by decide) (fun c => ?_) (fun c => ?_)
    · replace h := h.1 c
      exact e_sub (ls2 := [(0, vI x0), (1, vI x1), (2, vI x2), (3, vI x3), (4, vI x4), (5, vR x5), (6, vI x6), (8, vI x8), (9, vI x9), (10, vI x10)]) [0, 1, 2, 3, 4, 5, 6, 8, 9, 10] rfl h
    · replace h := h.2 c
      refine e_aload 5 dL_drawn_182 rfl ?_
      refine e_ldcS (j := 4) (by decide) rfl dL_drawn_184 ?_
      have o9 := h.1
      replace h := h.2
      refine i_VR (μ' := MJ4_append_15ec4) (ci := 10) (r := x5) (as := [vO (4 + 1)]) (st := []) rfl dL_drawn_186 mOKJ4_append_15ec4 ⟨mlL_62, imJ4_append_15ec4, seJ4_append_15ec4⟩ (by decide) (Nat.le_of_ble_eq_true rfl) rfl (Nat.le_of_ble_eq_true rfl) ⟨by decide, rfl⟩ o9 (CR.mono h ?_)
      clear h
      intro S186 I186 R186 x186_ h
      refine e_iload 10 dL_drawn_189 rfl ?_
      have o10 := h.1
      replace h := h.2
      refine i_VR (μ' := MJ4_append_bf812) (ci := 10) (r := x186_) (as := [vI x10]) (st := []) rfl dL_drawn_191 mOKJ4_append_bf812 ⟨mlL_65, imJ4_append_bf812, seJ4_append_bf812⟩ (by decide) (Nat.le_of_ble_eq_true rfl) rfl (Nat.le_of_ble_eq_true rfl) ⟨by decide, rfl⟩ o10 (CR.mono h ?_)
      clear h
      intro S191 I191 R191 x191_ h
      refine e_pop dL_drawn_194 rfl ?_
      exact e_sub (ls2 := [(0, vI x0), (1, vI x1), (2, vI x2), (3, vI x3), (4, vI x4), (5, vR x5), (6, vI x6), (8, vI x8), (9, vI x9), (10, vI x10)]) [0, 1, 2, 3, 4, 5, 6, 8, 9, 10] rfl h
  · replace h := h.2 c
    refine e_aload 5 dL_drawn_164 rfl ?_
    refine e_ldcS (j := 3) (by decide) rfl dL_drawn_166 ?_
    have o11 := h.1
    replace h := h.2
    refine i_VR (μ' := MJ4_append_15ec4) (ci := 10) (r := x5) (as := [vO (3 + 1)]) (st := []) rfl dL_drawn_168 mOKJ4_append_15ec4 ⟨mlL_62, imJ4_append_15ec4, seJ4_append_15ec4⟩ (by decide) (Nat.le_of_ble_eq_true rfl) rfl (Nat.le_of_ble_eq_true rfl) ⟨by decide, rfl⟩ o11 (CR.mono h ?_)
    clear h
    intro S168 I168 R168 x168_ h
    refine e_iload 9 dL_drawn_171 rfl ?_
    have o12 := h.1
    replace h := h.2
    refine i_VR (μ' := MJ4_append_bf812) (ci := 10) (r := x168_) (as := [vI x9]) (st := []) rfl dL_drawn_173 mOKJ4_append_bf812 ⟨mlL_65, imJ4_append_bf812, seJ4_append_bf812⟩ (by decide) (Nat.le_of_ble_eq_true rfl) rfl (Nat.le_of_ble_eq_true rfl) ⟨by decide, rfl⟩ o12 (CR.mono h ?_)
    clear h
    intro S173 I173 R173 x173_ h
    refine e_pop dL_drawn_176 rfl ?_
    refine e_iload 10 dL_drawn_177 rfl ?_
    refine e_if_le (tgt := 195) dL_drawn_179 (by decide) (fun c => ?_) (fun c => ?_)
    · replace h := h.1 c
      exact e_sub (ls2 := [(0, vI x0), (1, vI x1), (2, vI x2), (3, vI x3), (4, vI x4), (5, vR x5), (6, vI x6), (8, vI x8), (9, vI x9), (10, vI x10)]) [0, 1, 2, 3, 4, 5, 6, 8, 9, 10] rfl h
    · replace h := h.2 c
      refine e_aload 5 dL_drawn_182 rfl ?_
      refine e_ldcS (j := 4) (by decide) rfl dL_drawn_184 ?_
      have o13 := h.1
      replace h := h.2
      refine i_VR (μ' := MJ4_append_15ec4) (ci := 10) (r := x5) (as := [vO (4 + 1)]) (st := []) rfl dL_drawn_186 mOKJ4_append_15ec4 ⟨mlL_62, imJ4_append_15ec4, seJ4_append_15ec4⟩ (by decide) (Nat.le_of_ble_eq_true rfl) rfl (Nat.le_of_ble_eq_true rfl) ⟨by decide, rfl⟩ o13 (CR.mono h ?_)
      clear h
      intro S186 I186 R186 x186_ h
      refine e_iload 10 dL_drawn_189 rfl ?_
      have o14 := h.1
      replace h := h.2
      refine i_VR (μ' := MJ4_append_bf812) (ci := 10) (r := x186_) (as := [vI x10]) (st := []) rfl dL_drawn_191 mOKJ4_append_bf812 ⟨mlL_65, imJ4_append_bf812, seJ4_append_bf812⟩ (by decide) (Nat.le_of_ble_eq_true rfl) rfl (Nat.le_of_ble_eq_true rfl) ⟨by decide, rfl⟩ o14 (CR.mono h ?_)
      clear h
      intro S191 I191 R191 x191_ h
      refine e_pop dL_drawn_194 rfl ?_
      exact e_sub (ls2 := [(0, vI x0), (1, vI x1), (2, vI x2), (3, vI x3), (4, vI x4), (5, vR x5), (6, vI x6), (8, vI x8), (9, vI x9), (10, vI x10)]) [0, 1, 2, 3, 4, 5, 6, 8, 9, 10] rfl h
set_option maxRecDepth 100000 in
set_option maxHeartbeats 4000000 in
theorem bL_drawn_195 {G : Gl} {S : Sh} {I : MI} {R : MR} {Q : Sh → MI → MR → Nat → Prop} {x0 : Int} {x1 : Int} {x2 : Int} {x3 : Int} {x4 : Int} {x5 : Nat} {x6 : Int} {x8 : Int} {x9 : Int} {x10 : Int} (h : ((x2 ≠ 3 → LL_drawn_12 G x0 x1 x2 x3 x4 x5 (w32 (x6 + 1)) S I R Q) ∧ (¬ (x2 ≠ 3) → ((x8 ≤ (w32 (x9 + x10)) → LL_drawn_12 G x0 x1 x2 x3 x4 x5 (w32 (x6 + 1)) S I R Q) ∧ (¬ (x8 ≤ (w32 (x9 + x10))) → (sT S x5 = 11 ∧ (CR G MJ4_append_15ec4 [vR x5, vO (5 + 1)] S I R (fun S214 I214 R214 x214_ => (sT S214 x214_ = 11 ∧ (CR G MJ4_append_bf812 [vR x214_, vI (w32 ((w32 (x8 - x9)) - x10))] S214 I214 R214 (fun S225 I225 R225 x225_ => LL_drawn_12 G x0 x1 x2 x3 x4 x5 (w32 (x6 + 1)) S225 I225 R225 Q))))))))))) : LL_drawn_195 G x0 x1 x2 x3 x4 x5 x6 x8 x9 x10 S I R Q := by
  show E G ML_drawn 195 [(0, vI x0), (1, vI x1), (2, vI x2), (3, vI x3), (4, vI x4), (5, vR x5), (6, vI x6), (8, vI x8), (9, vI x9), (10, vI x10)] [] S I R (qR Q)
  refine e_iload_n 2 dL_drawn_195 rfl ?_
  refine e_iconst dL_drawn_196 (by unfold InR; decide) ?_
  refine e_icmp_ne (tgt := 229) dL_drawn_197 (by decide) (fun c => ?_) (fun c => ?_)
  · replace h := h.1 c
    refine e_iinc (ls2 := [(6, vI (w32 (x6 + 1))), (0, vI x0), (1, vI x1), (2, vI x2), (3, vI x3), (4, vI x4), (5, vR x5), (8, vI x8), (9, vI x9), (10, vI x10)]) 6 dL_drawn_229 rfl (by decide) rfl ?_
    refine e_goto (tgt := 12) dL_drawn_232 (by decide) ?_
    exact e_sub (ls2 := [(0, vI x0), (1, vI x1), (2, vI x2), (3, vI x3), (4, vI x4), (5, vR x5), (6, vI (w32 (x6 + 1)))]) [1, 2, 3, 4, 5, 6, 0] rfl h
  · replace h := h.2 c
    refine e_iload 7 dL_drawn_200 rfl ?_
    refine e_iload 8 dL_drawn_202 rfl ?_
    refine e_iload 9 dL_drawn_204 rfl ?_
    refine e_iadd dL_drawn_206 ?_
    refine e_icmp_le (tgt := 229) dL_drawn_207 (by decide) (fun c => ?_) (fun c => ?_)
    · replace h := h.1 c
      refine e_iinc (ls2 := [(6, vI (w32 (x6 + 1))), (0, vI x0), (1, vI x1), (2, vI x2), (3, vI x3), (4, vI x4), (5, vR x5), (8, vI x8), (9, vI x9), (10, vI x10)]) 6 dL_drawn_229 rfl (by decide) rfl ?_
      refine e_goto (tgt := 12) dL_drawn_232 (by decide) ?_
      exact e_sub (ls2 := [(0, vI x0), (1, vI x1), (2, vI x2), (3, vI x3), (4, vI x4), (5, vR x5), (6, vI (w32 (x6 + 1)))]) [1, 2, 3, 4, 5, 6, 0] rfl h
    · replace h := h.2 c
      refine e_aload 5 dL_drawn_210 rfl ?_
      refine e_ldcS (j := 5) (by decide) rfl dL_drawn_212 ?_
      have o15 := h.1
      replace h := h.2
      refine i_VR (μ' := MJ4_append_15ec4) (ci := 10) (r := x5) (as := [vO (5 + 1)]) (st := []) rfl dL_drawn_214 mOKJ4_append_15ec4 ⟨mlL_62, imJ4_append_15ec4, seJ4_append_15ec4⟩ (by decide) (Nat.le_of_ble_eq_true rfl) rfl (Nat.le_of_ble_eq_true rfl) ⟨by decide, rfl⟩ o15 (CR.mono h ?_)
      clear h
      intro S214 I214 R214 x214_ h
      refine e_iload 7 dL_drawn_217 rfl ?_
      refine e_iload 8 dL_drawn_219 rfl ?_
      refine e_isub dL_drawn_221 ?_
      refine e_iload 9 dL_drawn_222 rfl ?_
      refine e_isub dL_drawn_224 ?_
      have o16 := h.1
      replace h := h.2
      refine i_VR (μ' := MJ4_append_bf812) (ci := 10) (r := x214_) (as := [vI (w32 ((w32 (x8 - x9)) - x10))]) (st := []) rfl dL_drawn_225 mOKJ4_append_bf812 ⟨mlL_65, imJ4_append_bf812, seJ4_append_bf812⟩ (by decide) (Nat.le_of_ble_eq_true rfl) rfl (Nat.le_of_ble_eq_true rfl) ⟨by decide, rfl⟩ o16 (CR.mono h ?_)
      clear h
      intro S225 I225 R225 x225_ h
      refine e_pop dL_drawn_228 rfl ?_
      refine e_iinc (ls2 := [(6, vI (w32 (x6 + 1))), (0, vI x0), (1, vI x1), (2, vI x2), (3, vI x3), (4, vI x4), (5, vR x5), (8, vI x8), (9, vI x9), (10, vI x10)]) 6 dL_drawn_229 rfl (by decide) rfl ?_
      refine e_goto (tgt := 12) dL_drawn_232 (by decide) ?_
      exact e_sub (ls2 := [(0, vI x0), (1, vI x1), (2, vI x2), (3, vI x3), (4, vI x4), (5, vR x5), (6, vI (w32 (x6 + 1)))]) [1, 2, 3, 4, 5, 6, 0] rfl h

def LL_isStepped_7 (G : Gl) (x0 : Nat) (x1 : Int) (x2 : Int) (x3 : Int) (x4 : Int) (S : Sh) (I : MI) (R : MR) (Q : Sh → MI → MR → Int → Prop) : Prop := E G ML_isStepped 7 [(0, vR x0), (1, vI x1), (2, vI x2), (3, vI x3), (4, vI x4)] [] S I R (qI Q)
def LL_isStepped_51 (G : Gl) (x0 : Nat) (x1 : Int) (x2 : Int) (x3 : Int) (x4 : Int) (y0 : Int) (y1 : Int) (S : Sh) (I : MI) (R : MR) (Q : Sh → MI → MR → Int → Prop) : Prop := E G ML_isStepped 51 [(0, vR x0), (1, vI x1), (2, vI x2), (3, vI x3), (4, vI x4)] [vI y0, vI y1] S I R (qI Q)
set_option maxRecDepth 100000 in
set_option maxHeartbeats 4000000 in
theorem bL_isStepped {G : Gl} {S : Sh} {I : MI} {R : MR} {Q : Sh → MI → MR → Int → Prop} {x0 : Nat} {x1 : Int} (h : LL_isStepped_7 G x0 x1 0 (-1) 0 S I R Q) : CI G ML_isStepped [vR x0, vI x1] S I R Q := by
  show E G ML_isStepped 0 [(0, vR x0), (1, vI x1)] [] S I R (qI Q)
  refine e_iconst dL_isStepped_0 (by unfold InR; decide) ?_
  refine e_istore_n (ls2 := [(2, vI 0), (0, vR x0), (1, vI x1)]) dL_isStepped_1 (by decide) rfl ?_
  refine e_iconst dL_isStepped_2 (by unfold InR; decide) ?_
  refine e_istore_n (ls2 := [(3, vI (-1)), (2, vI 0), (0, vR x0), (1, vI x1)]) dL_isStepped_3 (by decide) rfl ?_
  refine e_iconst dL_isStepped_4 (by unfold InR; decide) ?_
  refine e_istore (ls2 := [(4, vI 0), (3, vI (-1)), (2, vI 0), (0, vR x0), (1, vI x1)]) dL_isStepped_5 (by decide) rfl ?_
  exact e_sub (ls2 := [(0, vR x0), (1, vI x1), (2, vI 0), (3, vI (-1)), (4, vI 0)]) [3, 4, 2, 1, 0] rfl h
set_option maxRecDepth 100000 in
set_option maxHeartbeats 4000000 in
theorem bL_isStepped_7 {G : Gl} {S : Sh} {I : MI} {R : MR} {Q : Sh → MI → MR → Int → Prop} {x0 : Nat} {x1 : Int} {x2 : Int} {x3 : Int} {x4 : Int} (h : ((x1 ≤ x4 → (sT S x0 = 9 ∧ (CI G MX9_look [vR x0, vI 9] S I R (fun S95 I95 R95 x95_ => (sT S95 x0 = 9 ∧ (CI G MX9_step [vR x0, vI (-1), vI 1] S95 I95 R95 (fun S105 I105 R105 x105_ => (((w32 (x2 + (vJ6_bitCount_0f7a4 x95_))) ≠ x105_ → Q S105 I105 R105 0) ∧ (¬ ((w32 (x2 + (vJ6_bitCount_0f7a4 x95_))) ≠ x105_) → (sT S105 x0 = 9 ∧ (CI G MX9_step [vR x0, vI x1, vI 0] S105 I105 R105 (fun S114 I114 R114 x114_ => ((x114_ ≠ (-1) → Q S114 I114 R114 0) ∧ (¬ (x114_ ≠ (-1)) → Q S114 I114 R114 1)))))))))))))) ∧ (¬ (x1 ≤ x4) → (sT S x0 = 9 ∧ (CI G MX9_step [vR x0, vI x4, vI 1] S I R (fun S17 I17 R17 x17_ => (sT S17 x0 = 9 ∧ (CI G MX9_step [vR x0, vI x4, vI 2] S17 I17 R17 (fun S24 I24 R24 x24_ => ((x17_ ≤ x24_ → (sT S24 x0 = 9 ∧ (CI G MX9_step [vR x0, vI x4, vI 3] S24 I24 R24 (fun S39 I39 R39 x39_ => ((x39_ ≠ 1 → LL_isStepped_51 G x0 x1 x2 x3 x4 0 0 S39 I39 R39 Q) ∧ (¬ (x39_ ≠ 1) → LL_isStepped_51 G x0 x1 x2 x3 x4 1 0 S39 I39 R39 Q)))))) ∧ (¬ (x17_ ≤ x24_) → (sT S24 x0 = 9 ∧ (CI G MX9_step [vR x0, vI x4, vI 3] S24 I24 R24 (fun S39 I39 R39 x39_ => ((x39_ ≠ 1 → LL_isStepped_51 G x0 x1 x2 x3 x4 0 1 S39 I39 R39 Q) ∧ (¬ (x39_ ≠ 1) → LL_isStepped_51 G x0 x1 x2 x3 x4 1 1 S39 I39 R39 Q)))))))))))))))) : LL_isStepped_7 G x0 x1 x2 x3 x4 S I R Q := by
  show E G ML_isStepped 7 [(0, vR x0), (1, vI x1), (2, vI x2), (3, vI x3), (4, vI x4)] [] S I R (qI Q)
  refine e_iload 4 dL_isStepped_7 rfl ?_
  refine e_iload_n 1 dL_isStepped_9 rfl ?_
  refine e_icmp_ge (tgt := 91) dL_isStepped_10 (by decide) (fun c => ?_) (fun c => ?_)
  · replace h := h.1 c
    refine e_iload_n 2 dL_isStepped_91 rfl ?_
    refine e_aload_n 0 dL_isStepped_92 rfl ?_
    refine e_bipush (x := 9) dL_isStepped_93 ⟨by decide +kernel, by unfold InR; decide⟩ ?_
    have o1 := h.1
    replace h := h.2
    refine i_VI (μ' := MX9_look) (ci := 8) (r := x0) (as := [vI 9]) (st := [vI x2]) rfl dL_isStepped_95 mOKX9_look ⟨mlL_104, imX9_look, seX9_look⟩ (by decide) (Nat.le_of_ble_eq_true rfl) rfl (Nat.le_of_ble_eq_true rfl) ⟨by decide, rfl⟩ o1 (CI.mono h ?_)
    clear h
    intro S95 I95 R95 x95_ h
    refine i_SI (μ' := MJ6_bitCount_0f7a4) (as := [vI x95_]) (st := [vI x2]) rfl dL_isStepped_98 mOKJ6_bitCount_0f7a4 ⟨mlL_127, stJ6_bitCount_0f7a4⟩ (by decide) (Nat.le_of_ble_eq_true rfl) rfl (Nat.le_of_ble_eq_true rfl) (sJ6_bitCount_0f7a4 ?_)
    refine e_iadd dL_isStepped_101 ?_
    refine e_aload_n 0 dL_isStepped_102 rfl ?_
    refine e_iconst dL_isStepped_103 (by unfold InR; decide) ?_
    refine e_iconst dL_isStepped_104 (by unfold InR; decide) ?_
    have o2 := h.1
    replace h := h.2
    refine i_VI (μ' := MX9_step) (ci := 8) (r := x0) (as := [vI (-1), vI 1]) (st := [vI (w32 (x2 + (vJ6_bitCount_0f7a4 x95_)))]) rfl dL_isStepped_105 mOKX9_step ⟨mlL_83, imX9_step, seX9_step⟩ (by decide) (Nat.le_of_ble_eq_true rfl) rfl (Nat.le_of_ble_eq_true rfl) ⟨by decide, rfl⟩ o2 (CI.mono h ?_)
    clear h
    intro S105 I105 R105 x105_ h
    refine e_icmp_ne (tgt := 125) dL_isStepped_108 (by decide) (fun c => ?_) (fun c => ?_)
    · replace h := h.1 c
      refine e_iconst dL_isStepped_125 (by unfold InR; decide) ?_
      exact e_zreturn dL_isStepped_126 rfl (by decide) ⟨_, rfl, h⟩
    · replace h := h.2 c
      refine e_aload_n 0 dL_isStepped_111 rfl ?_
      refine e_iload_n 1 dL_isStepped_112 rfl ?_
      refine e_iconst dL_isStepped_113 (by unfold InR; decide) ?_
      have o3 := h.1
      replace h := h.2
      refine i_VI (μ' := MX9_step) (ci := 8) (r := x0) (as := [vI x1, vI 0]) (st := []) rfl dL_isStepped_114 mOKX9_step ⟨mlL_83, imX9_step, seX9_step⟩ (by decide) (Nat.le_of_ble_eq_true rfl) rfl (Nat.le_of_ble_eq_true rfl) ⟨by decide, rfl⟩ o3 (CI.mono h ?_)
      clear h
      intro S114 I114 R114 x114_ h
      refine e_iconst dL_isStepped_117 (by unfold InR; decide) ?_
      refine e_icmp_ne (tgt := 125) dL_isStepped_118 (by decide) (fun c => ?_) (fun c => ?_)
      · replace h := h.1 c
        refine e_iconst dL_isStepped_125 (by unfold InR; decide) ?_
        exact e_zreturn dL_isStepped_126 rfl (by decide) ⟨_, rfl, h⟩
      · replace h := h.2 c
        refine e_iconst dL_isStepped_121 (by unfold InR; decide) ?_
        refine e_goto (tgt := 126) dL_isStepped_122 (by decide) ?_
        exact e_zreturn dL_isStepped_126 rfl (by decide) ⟨_, rfl, h⟩
  · replace h := h.2 c
    refine e_aload_n 0 dL_isStepped_13 rfl ?_
    refine e_iload 4 dL_isStepped_14 rfl ?_
    refine e_iconst dL_isStepped_16 (by unfold InR; decide) ?_
    have o4 := h.1
    replace h := h.2
    refine i_VI (μ' := MX9_step) (ci := 8) (r := x0) (as := [vI x4, vI 1]) (st := []) rfl dL_isStepped_17 mOKX9_step ⟨mlL_83, imX9_step, seX9_step⟩ (by decide) (Nat.le_of_ble_eq_true rfl) rfl (Nat.le_of_ble_eq_true rfl) ⟨by decide, rfl⟩ o4 (CI.mono h ?_)
    clear h
    intro S17 I17 R17 x17_ h
    refine e_aload_n 0 dL_isStepped_20 rfl ?_
    refine e_iload 4 dL_isStepped_21 rfl ?_
    refine e_iconst dL_isStepped_23 (by unfold InR; decide) ?_
    have o5 := h.1
    replace h := h.2
    refine i_VI (μ' := MX9_step) (ci := 8) (r := x0) (as := [vI x4, vI 2]) (st := [vI x17_]) rfl dL_isStepped_24 mOKX9_step ⟨mlL_83, imX9_step, seX9_step⟩ (by decide) (Nat.le_of_ble_eq_true rfl) rfl (Nat.le_of_ble_eq_true rfl) ⟨by decide, rfl⟩ o5 (CI.mono h ?_)
    clear h
    intro S24 I24 R24 x24_ h
    refine e_icmp_le (tgt := 34) dL_isStepped_27 (by decide) (fun c => ?_) (fun c => ?_)
    · replace h := h.1 c
      refine e_iconst dL_isStepped_34 (by unfold InR; decide) ?_
      refine e_aload_n 0 dL_isStepped_35 rfl ?_
      refine e_iload 4 dL_isStepped_36 rfl ?_
      refine e_iconst dL_isStepped_38 (by unfold InR; decide) ?_
      have o6 := h.1
      replace h := h.2
      refine i_VI (μ' := MX9_step) (ci := 8) (r := x0) (as := [vI x4, vI 3]) (st := [vI 0]) rfl dL_isStepped_39 mOKX9_step ⟨mlL_83, imX9_step, seX9_step⟩ (by decide) (Nat.le_of_ble_eq_true rfl) rfl (Nat.le_of_ble_eq_true rfl) ⟨by decide, rfl⟩ o6 (CI.mono h ?_)
      clear h
      intro S39 I39 R39 x39_ h
      refine e_iconst dL_isStepped_42 (by unfold InR; decide) ?_
      refine e_icmp_ne (tgt := 50) dL_isStepped_43 (by decide) (fun c => ?_) (fun c => ?_)
      · replace h := h.1 c
        refine e_iconst dL_isStepped_50 (by unfold InR; decide) ?_
        exact e_sub (ls2 := [(0, vR x0), (1, vI x1), (2, vI x2), (3, vI x3), (4, vI x4)]) [0, 1, 2, 3, 4] rfl h
      · replace h := h.2 c
        refine e_iconst dL_isStepped_46 (by unfold InR; decide) ?_
        refine e_goto (tgt := 51) dL_isStepped_47 (by decide) ?_
        exact e_sub (ls2 := [(0, vR x0), (1, vI x1), (2, vI x2), (3, vI x3), (4, vI x4)]) [0, 1, 2, 3, 4] rfl h
    · replace h := h.2 c
      refine e_iconst dL_isStepped_30 (by unfold InR; decide) ?_
      refine e_goto (tgt := 35) dL_isStepped_31 (by decide) ?_
      refine e_aload_n 0 dL_isStepped_35 rfl ?_
      refine e_iload 4 dL_isStepped_36 rfl ?_
      refine e_iconst dL_isStepped_38 (by unfold InR; decide) ?_
      have o7 := h.1
      replace h := h.2
      refine i_VI (μ' := MX9_step) (ci := 8) (r := x0) (as := [vI x4, vI 3]) (st := [vI 1]) rfl dL_isStepped_39 mOKX9_step ⟨mlL_83, imX9_step, seX9_step⟩ (by decide) (Nat.le_of_ble_eq_true rfl) rfl (Nat.le_of_ble_eq_true rfl) ⟨by decide, rfl⟩ o7 (CI.mono h ?_)
      clear h
      intro S39 I39 R39 x39_ h
      refine e_iconst dL_isStepped_42 (by unfold InR; decide) ?_
      refine e_icmp_ne (tgt := 50) dL_isStepped_43 (by decide) (fun c => ?_) (fun c => ?_)
      · replace h := h.1 c
        refine e_iconst dL_isStepped_50 (by unfold InR; decide) ?_
        exact e_sub (ls2 := [(0, vR x0), (1, vI x1), (2, vI x2), (3, vI x3), (4, vI x4)]) [0, 1, 2, 3, 4] rfl h
      · replace h := h.2 c
        refine e_iconst dL_isStepped_46 (by unfold InR; decide) ?_
        refine e_goto (tgt := 51) dL_isStepped_47 (by decide) ?_
        exact e_sub (ls2 := [(0, vR x0), (1, vI x1), (2, vI x2), (3, vI x3), (4, vI x4)]) [0, 1, 2, 3, 4] rfl h
set_option maxRecDepth 100000 in
set_option maxHeartbeats 4000000 in
theorem bL_isStepped_51 {G : Gl} {S : Sh} {I : MI} {R : MR} {Q : Sh → MI → MR → Int → Prop} {x0 : Nat} {x1 : Int} {x2 : Int} {x3 : Int} {x4 : Int} {y0 : Int} {y1 : Int} (h : ((y1 ≠ y0 → Q S I R 0) ∧ (¬ (y1 ≠ y0) → (sT S x0 = 9 ∧ (CI G MX9_step [vR x0, vI x4, vI 4] S I R (fun S58 I58 R58 x58_ => ((x3 ≤ x58_ → (sT S58 x0 = 9 ∧ (CI G MX9_step [vR x0, vI x4, vI 3] S58 I58 R58 (fun S72 I72 R72 x72_ => (sT S72 x0 = 9 ∧ (CI G MX9_step [vR x0, vI x4, vI 4] S72 I72 R72 (fun S81 I81 R81 x81_ => LL_isStepped_7 G x0 x1 (w32 (x2 + x72_)) x81_ (w32 (x4 + 1)) S81 I81 R81 Q))))))) ∧ (¬ (x3 ≤ x58_) → Q S58 I58 R58 0)))))))) : LL_isStepped_51 G x0 x1 x2 x3 x4 y0 y1 S I R Q := by
  show E G ML_isStepped 51 [(0, vR x0), (1, vI x1), (2, vI x2), (3, vI x3), (4, vI x4)] [vI y0, vI y1] S I R (qI Q)
  refine e_icmp_ne (tgt := 65) dL_isStepped_51 (by decide) (fun c => ?_) (fun c => ?_)
  · replace h := h.1 c
    refine e_iconst dL_isStepped_65 (by unfold InR; decide) ?_
    exact e_zreturn dL_isStepped_66 rfl (by decide) ⟨_, rfl, h⟩
  · replace h := h.2 c
    refine e_aload_n 0 dL_isStepped_54 rfl ?_
    refine e_iload 4 dL_isStepped_55 rfl ?_
    refine e_iconst dL_isStepped_57 (by unfold InR; decide) ?_
    have o8 := h.1
    replace h := h.2
    refine i_VI (μ' := MX9_step) (ci := 8) (r := x0) (as := [vI x4, vI 4]) (st := []) rfl dL_isStepped_58 mOKX9_step ⟨mlL_83, imX9_step, seX9_step⟩ (by decide) (Nat.le_of_ble_eq_true rfl) rfl (Nat.le_of_ble_eq_true rfl) ⟨by decide, rfl⟩ o8 (CI.mono h ?_)
    clear h
    intro S58 I58 R58 x58_ h
    refine e_iload_n 3 dL_isStepped_61 rfl ?_
    refine e_icmp_ge (tgt := 67) dL_isStepped_62 (by decide) (fun c => ?_) (fun c => ?_)
    · replace h := h.1 c
      refine e_iload_n 2 dL_isStepped_67 rfl ?_
      refine e_aload_n 0 dL_isStepped_68 rfl ?_
      refine e_iload 4 dL_isStepped_69 rfl ?_
      refine e_iconst dL_isStepped_71 (by unfold InR; decide) ?_
      have o9 := h.1
      replace h := h.2
      refine i_VI (μ' := MX9_step) (ci := 8) (r := x0) (as := [vI x4, vI 3]) (st := [vI x2]) rfl dL_isStepped_72 mOKX9_step ⟨mlL_83, imX9_step, seX9_step⟩ (by decide) (Nat.le_of_ble_eq_true rfl) rfl (Nat.le_of_ble_eq_true rfl) ⟨by decide, rfl⟩ o9 (CI.mono h ?_)
      clear h
      intro S72 I72 R72 x72_ h
      refine e_iadd dL_isStepped_75 ?_
      refine e_istore_n (ls2 := [(2, vI (w32 (x2 + x72_))), (0, vR x0), (1, vI x1), (3, vI x3), (4, vI x4)]) dL_isStepped_76 (by decide) rfl ?_
      refine e_aload_n 1 dL_isStepped_77 rfl ?_
      refine e_iload 4 dL_isStepped_78 rfl ?_
      refine e_iconst dL_isStepped_80 (by unfold InR; decide) ?_
      have o10 := h.1
      replace h := h.2
      refine i_VI (μ' := MX9_step) (ci := 8) (r := x0) (as := [vI x4, vI 4]) (st := []) rfl dL_isStepped_81 mOKX9_step ⟨mlL_83, imX9_step, seX9_step⟩ (by decide) (Nat.le_of_ble_eq_true rfl) rfl (Nat.le_of_ble_eq_true rfl) ⟨by decide, rfl⟩ o10 (CI.mono h ?_)
      clear h
      intro S81 I81 R81 x81_ h
      refine e_istore_n (ls2 := [(3, vI x81_), (2, vI (w32 (x2 + x72_))), (0, vR x0), (1, vI x1), (4, vI x4)]) dL_isStepped_84 (by decide) rfl ?_
      refine e_iinc (ls2 := [(4, vI (w32 (x4 + 1))), (3, vI x81_), (2, vI (w32 (x2 + x72_))), (0, vR x0), (1, vI x1)]) 4 dL_isStepped_85 rfl (by decide) rfl ?_
      refine e_goto (tgt := 7) dL_isStepped_88 (by decide) ?_
      exact e_sub (ls2 := [(0, vR x0), (1, vI x1), (2, vI (w32 (x2 + x72_))), (3, vI x81_), (4, vI (w32 (x4 + 1)))]) [3, 4, 2, 1, 0] rfl h
    · replace h := h.2 c
      refine e_iconst dL_isStepped_65 (by unfold InR; decide) ?_
      exact e_zreturn dL_isStepped_66 rfl (by decide) ⟨_, rfl, h⟩

def LL_isWhole_29 (G : Gl) (x0 : Nat) (x1 : Int) (x2 : Int) (x3 : Int) (S : Sh) (I : MI) (R : MR) (Q : Sh → MI → MR → Int → Prop) : Prop := E G ML_isWhole 29 [(0, vR x0), (1, vI x1), (2, vI x2), (3, vI x3)] [] S I R (qI Q)
set_option maxRecDepth 100000 in
set_option maxHeartbeats 4000000 in
theorem bL_isWhole {G : Gl} {S : Sh} {I : MI} {R : MR} {Q : Sh → MI → MR → Int → Prop} {x0 : Nat} {x1 : Int} (h : (sT S x0 = 9 ∧ (CI G MX9_look [vR x0, vI 9] S I R (fun S3 I3 R3 x3_ => (sT S3 x0 = 9 ∧ (CI G MX9_kept [vR x0, vI 1, vI 5] S3 I3 R3 (fun S10 I10 R10 x10_ => (sT S10 x0 = 9 ∧ (CI G MX9_make [vR x0, vI 2, vI 5, vI 0, vI 5] S10 I10 R10 (fun S19 I19 R19 x19_ => ((0 ≤ x19_ → LL_isWhole_29 G x0 x1 x3_ 1 S19 I19 R19 Q) ∧ (¬ (0 ≤ x19_) → Q S19 I19 R19 1)))))))))))) : CI G ML_isWhole [vR x0, vI x1] S I R Q := by
  show E G ML_isWhole 0 [(0, vR x0), (1, vI x1)] [] S I R (qI Q)
  refine e_aload_n 0 dL_isWhole_0 rfl ?_
  refine e_bipush (x := 9) dL_isWhole_1 ⟨by decide +kernel, by unfold InR; decide⟩ ?_
  have o1 := h.1
  replace h := h.2
  refine i_VI (μ' := MX9_look) (ci := 8) (r := x0) (as := [vI 9]) (st := []) rfl dL_isWhole_3 mOKX9_look ⟨mlL_104, imX9_look, seX9_look⟩ (by decide) (Nat.le_of_ble_eq_true rfl) rfl (Nat.le_of_ble_eq_true rfl) ⟨by decide, rfl⟩ o1 (CI.mono h ?_)
  clear h
  intro S3 I3 R3 x3_ h
  refine e_istore_n (ls2 := [(2, vI x3_), (0, vR x0), (1, vI x1)]) dL_isWhole_6 (by decide) rfl ?_
  refine e_aload_n 1 dL_isWhole_7 rfl ?_
  refine e_iconst dL_isWhole_8 (by unfold InR; decide) ?_
  refine e_iconst dL_isWhole_9 (by unfold InR; decide) ?_
  have o2 := h.1
  replace h := h.2
  refine i_VI (μ' := MX9_kept) (ci := 8) (r := x0) (as := [vI 1, vI 5]) (st := []) rfl dL_isWhole_10 mOKX9_kept ⟨mlL_87, imX9_kept, seX9_kept⟩ (by decide) (Nat.le_of_ble_eq_true rfl) rfl (Nat.le_of_ble_eq_true rfl) ⟨by decide, rfl⟩ o2 (CI.mono h ?_)
  clear h
  intro S10 I10 R10 x10_ h
  refine e_pop dL_isWhole_13 rfl ?_
  refine e_aload_n 1 dL_isWhole_14 rfl ?_
  refine e_iconst dL_isWhole_15 (by unfold InR; decide) ?_
  refine e_iconst dL_isWhole_16 (by unfold InR; decide) ?_
  refine e_iconst dL_isWhole_17 (by unfold InR; decide) ?_
  refine e_iconst dL_isWhole_18 (by unfold InR; decide) ?_
  have o3 := h.1
  replace h := h.2
  refine i_VI (μ' := MX9_make) (ci := 8) (r := x0) (as := [vI 2, vI 5, vI 0, vI 5]) (st := []) rfl dL_isWhole_19 mOKX9_make ⟨mlL_132, imX9_make, seX9_make⟩ (by decide) (Nat.le_of_ble_eq_true rfl) rfl (Nat.le_of_ble_eq_true rfl) ⟨by decide, rfl⟩ o3 (CI.mono h ?_)
  clear h
  intro S19 I19 R19 x19_ h
  refine e_if_ge (tgt := 27) dL_isWhole_22 (by decide) (fun c => ?_) (fun c => ?_)
  · replace h := h.1 c
    refine e_iconst dL_isWhole_27 (by unfold InR; decide) ?_
    refine e_istore_n (ls2 := [(3, vI 1), (2, vI x3_), (0, vR x0), (1, vI x1)]) dL_isWhole_28 (by decide) rfl ?_
    exact e_sub (ls2 := [(0, vR x0), (1, vI x1), (2, vI x3_), (3, vI 1)]) [2, 3, 1, 0] rfl h
  · replace h := h.2 c
    refine e_iconst dL_isWhole_25 (by unfold InR; decide) ?_
    exact e_zreturn dL_isWhole_26 rfl (by decide) ⟨_, rfl, h⟩
set_option maxRecDepth 100000 in
set_option maxHeartbeats 4000000 in
theorem bL_isWhole_29 {G : Gl} {S : Sh} {I : MI} {R : MR} {Q : Sh → MI → MR → Int → Prop} {x0 : Nat} {x1 : Int} {x2 : Int} {x3 : Int} (h : ((4 ≤ x3 → (sT S x0 = 9 ∧ (CI G MX9_kept [vR x0, vI 2, vI 6] S I R (fun S108 I108 R108 x108_ => ((x108_ ≠ (-1) → Q S108 I108 R108 0) ∧ (¬ (x108_ ≠ (-1)) → (sT S108 x0 = 9 ∧ (CI G MX9_kept [vR x0, vI 10, vI 6] S108 I108 R108 (fun S120 I120 R120 x120_ => ((x120_ = (-1) → (sT S120 x0 = 9 ∧ (CI G MX9_kept [vR x0, vI 0, vI 6] S120 I120 R120 (fun S133 I133 R133 x133_ => (sT S133 x0 = 9 ∧ (CI G MX9_make [vR x0, vI 1, vI 5, vI 6, vI 5] S133 I133 R133 (fun S143 I143 R143 x143_ => ((x143_ ≠ 0 → Q S143 I143 R143 0) ∧ (¬ (x143_ ≠ 0) → (((iand x1 x2) ≠ x2 → Q S143 I143 R143 0) ∧ (¬ ((iand x1 x2) ≠ x2) → Q S143 I143 R143 1))))))))))) ∧ (¬ (x120_ = (-1)) → Q S120 I120 R120 0))))))))))) ∧ (¬ (4 ≤ x3) → (((iand (ishr x2 x3) 1) ≠ 0 → (sT S x0 = 9 ∧ (CI G MX9_kept [vR x0, vI (w32 (2 + x3)), vI 6] S I R (fun S63 I63 R63 x63_ => ((0 ≤ x63_ → (sT S63 x0 = 9 ∧ (CI G MX9_make [vR x0, vI 2, vI 6, vI x3, vI 6] S63 I63 R63 (fun S78 I78 R78 x78_ => ((x78_ < 0 → Q S78 I78 R78 1) ∧ (¬ (x78_ < 0) → (sT S78 x0 = 9 ∧ (CI G MX9_make [vR x0, vI 1, vI 5, vI 6, vI 5] S78 I78 R78 (fun S90 I90 R90 x90_ => ((0 ≤ x90_ → LL_isWhole_29 G x0 x1 x2 (w32 (x3 + 1)) S90 I90 R90 Q) ∧ (¬ (0 ≤ x90_) → Q S90 I90 R90 1))))))))))) ∧ (¬ (0 ≤ x63_) → Q S63 I63 R63 0)))))) ∧ (¬ ((iand (ishr x2 x3) 1) ≠ 0) → (sT S x0 = 9 ∧ (CI G MX9_kept [vR x0, vI (w32 (2 + x3)), vI 6] S I R (fun S48 I48 R48 x48_ => ((x48_ = (-1) → LL_isWhole_29 G x0 x1 x2 (w32 (x3 + 1)) S48 I48 R48 Q) ∧ (¬ (x48_ = (-1)) → Q S48 I48 R48 0)))))))))) : LL_isWhole_29 G x0 x1 x2 x3 S I R Q := by
  show E G ML_isWhole 29 [(0, vR x0), (1, vI x1), (2, vI x2), (3, vI x3)] [] S I R (qI Q)
  refine e_iload_n 3 dL_isWhole_29 rfl ?_
  refine e_iconst dL_isWhole_30 (by unfold InR; decide) ?_
  refine e_icmp_ge (tgt := 104) dL_isWhole_31 (by decide) (fun c => ?_) (fun c => ?_)
  · replace h := h.1 c
    refine e_aload_n 0 dL_isWhole_104 rfl ?_
    refine e_iconst dL_isWhole_105 (by unfold InR; decide) ?_
    refine e_bipush (x := 6) dL_isWhole_106 ⟨by decide +kernel, by unfold InR; decide⟩ ?_
    have o4 := h.1
    replace h := h.2
    refine i_VI (μ' := MX9_kept) (ci := 8) (r := x0) (as := [vI 2, vI 6]) (st := []) rfl dL_isWhole_108 mOKX9_kept ⟨mlL_87, imX9_kept, seX9_kept⟩ (by decide) (Nat.le_of_ble_eq_true rfl) rfl (Nat.le_of_ble_eq_true rfl) ⟨by decide, rfl⟩ o4 (CI.mono h ?_)
    clear h
    intro S108 I108 R108 x108_ h
    refine e_iconst dL_isWhole_111 (by unfold InR; decide) ?_
    refine e_icmp_ne (tgt := 127) dL_isWhole_112 (by decide) (fun c => ?_) (fun c => ?_)
    · replace h := h.1 c
      refine e_iconst dL_isWhole_127 (by unfold InR; decide) ?_
      exact e_zreturn dL_isWhole_128 rfl (by decide) ⟨_, rfl, h⟩
    · replace h := h.2 c
      refine e_aload_n 0 dL_isWhole_115 rfl ?_
      refine e_bipush (x := 10) dL_isWhole_116 ⟨by decide +kernel, by unfold InR; decide⟩ ?_
      refine e_bipush (x := 6) dL_isWhole_118 ⟨by decide +kernel, by unfold InR; decide⟩ ?_
      have o5 := h.1
      replace h := h.2
      refine i_VI (μ' := MX9_kept) (ci := 8) (r := x0) (as := [vI 10, vI 6]) (st := []) rfl dL_isWhole_120 mOKX9_kept ⟨mlL_87, imX9_kept, seX9_kept⟩ (by decide) (Nat.le_of_ble_eq_true rfl) rfl (Nat.le_of_ble_eq_true rfl) ⟨by decide, rfl⟩ o5 (CI.mono h ?_)
      clear h
      intro S120 I120 R120 x120_ h
      refine e_iconst dL_isWhole_123 (by unfold InR; decide) ?_
      refine e_icmp_eq (tgt := 129) dL_isWhole_124 (by decide) (fun c => ?_) (fun c => ?_)
      · replace h := h.1 c
        refine e_aload_n 0 dL_isWhole_129 rfl ?_
        refine e_iconst dL_isWhole_130 (by unfold InR; decide) ?_
        refine e_bipush (x := 6) dL_isWhole_131 ⟨by decide +kernel, by unfold InR; decide⟩ ?_
        have o6 := h.1
        replace h := h.2
        refine i_VI (μ' := MX9_kept) (ci := 8) (r := x0) (as := [vI 0, vI 6]) (st := []) rfl dL_isWhole_133 mOKX9_kept ⟨mlL_87, imX9_kept, seX9_kept⟩ (by decide) (Nat.le_of_ble_eq_true rfl) rfl (Nat.le_of_ble_eq_true rfl) ⟨by decide, rfl⟩ o6 (CI.mono h ?_)
        clear h
        intro S133 I133 R133 x133_ h
        refine e_pop dL_isWhole_136 rfl ?_
        refine e_aload_n 0 dL_isWhole_137 rfl ?_
        refine e_iconst dL_isWhole_138 (by unfold InR; decide) ?_
        refine e_iconst dL_isWhole_139 (by unfold InR; decide) ?_
        refine e_bipush (x := 6) dL_isWhole_140 ⟨by decide +kernel, by unfold InR; decide⟩ ?_
        refine e_iconst dL_isWhole_142 (by unfold InR; decide) ?_
        have o7 := h.1
        replace h := h.2
        refine i_VI (μ' := MX9_make) (ci := 8) (r := x0) (as := [vI 1, vI 5, vI 6, vI 5]) (st := []) rfl dL_isWhole_143 mOKX9_make ⟨mlL_132, imX9_make, seX9_make⟩ (by decide) (Nat.le_of_ble_eq_true rfl) rfl (Nat.le_of_ble_eq_true rfl) ⟨by decide, rfl⟩ o7 (CI.mono h ?_)
        clear h
        intro S143 I143 R143 x143_ h
        refine e_if_ne (tgt := 160) dL_isWhole_146 (by decide) (fun c => ?_) (fun c => ?_)
        · replace h := h.1 c
          refine e_iconst dL_isWhole_160 (by unfold InR; decide) ?_
          exact e_zreturn dL_isWhole_161 rfl (by decide) ⟨_, rfl, h⟩
        · replace h := h.2 c
          refine e_iload_n 1 dL_isWhole_149 rfl ?_
          refine e_iload_n 2 dL_isWhole_150 rfl ?_
          refine e_iand dL_isWhole_151 ?_
          refine e_iload_n 2 dL_isWhole_152 rfl ?_
          refine e_icmp_ne (tgt := 160) dL_isWhole_153 (by decide) (fun c => ?_) (fun c => ?_)
          · replace h := h.1 c
            refine e_iconst dL_isWhole_160 (by unfold InR; decide) ?_
            exact e_zreturn dL_isWhole_161 rfl (by decide) ⟨_, rfl, h⟩
          · replace h := h.2 c
            refine e_iconst dL_isWhole_156 (by unfold InR; decide) ?_
            refine e_goto (tgt := 161) dL_isWhole_157 (by decide) ?_
            exact e_zreturn dL_isWhole_161 rfl (by decide) ⟨_, rfl, h⟩
      · replace h := h.2 c
        refine e_iconst dL_isWhole_127 (by unfold InR; decide) ?_
        exact e_zreturn dL_isWhole_128 rfl (by decide) ⟨_, rfl, h⟩
  · replace h := h.2 c
    refine e_iload_n 2 dL_isWhole_34 rfl ?_
    refine e_iload_n 3 dL_isWhole_35 rfl ?_
    refine e_ishr dL_isWhole_36 ?_
    refine e_iconst dL_isWhole_37 (by unfold InR; decide) ?_
    refine e_iand dL_isWhole_38 ?_
    refine e_if_ne (tgt := 57) dL_isWhole_39 (by decide) (fun c => ?_) (fun c => ?_)
    · replace h := h.1 c
      refine e_aload_n 0 dL_isWhole_57 rfl ?_
      refine e_iconst dL_isWhole_58 (by unfold InR; decide) ?_
      refine e_iload_n 3 dL_isWhole_59 rfl ?_
      refine e_iadd dL_isWhole_60 ?_
      refine e_bipush (x := 6) dL_isWhole_61 ⟨by decide +kernel, by unfold InR; decide⟩ ?_
      have o8 := h.1
      replace h := h.2
      refine i_VI (μ' := MX9_kept) (ci := 8) (r := x0) (as := [vI (w32 (2 + x3)), vI 6]) (st := []) rfl dL_isWhole_63 mOKX9_kept ⟨mlL_87, imX9_kept, seX9_kept⟩ (by decide) (Nat.le_of_ble_eq_true rfl) rfl (Nat.le_of_ble_eq_true rfl) ⟨by decide, rfl⟩ o8 (CI.mono h ?_)
      clear h
      intro S63 I63 R63 x63_ h
      refine e_if_ge (tgt := 71) dL_isWhole_66 (by decide) (fun c => ?_) (fun c => ?_)
      · replace h := h.1 c
        refine e_aload_n 0 dL_isWhole_71 rfl ?_
        refine e_iconst dL_isWhole_72 (by unfold InR; decide) ?_
        refine e_bipush (x := 6) dL_isWhole_73 ⟨by decide +kernel, by unfold InR; decide⟩ ?_
        refine e_iload_n 3 dL_isWhole_75 rfl ?_
        refine e_bipush (x := 6) dL_isWhole_76 ⟨by decide +kernel, by unfold InR; decide⟩ ?_
        have o9 := h.1
        replace h := h.2
        refine i_VI (μ' := MX9_make) (ci := 8) (r := x0) (as := [vI 2, vI 6, vI x3, vI 6]) (st := []) rfl dL_isWhole_78 mOKX9_make ⟨mlL_132, imX9_make, seX9_make⟩ (by decide) (Nat.le_of_ble_eq_true rfl) rfl (Nat.le_of_ble_eq_true rfl) ⟨by decide, rfl⟩ o9 (CI.mono h ?_)
        clear h
        intro S78 I78 R78 x78_ h
        refine e_if_lt (tgt := 96) dL_isWhole_81 (by decide) (fun c => ?_) (fun c => ?_)
        · replace h := h.1 c
          refine e_iconst dL_isWhole_96 (by unfold InR; decide) ?_
          exact e_zreturn dL_isWhole_97 rfl (by decide) ⟨_, rfl, h⟩
        · replace h := h.2 c
          refine e_aload_n 0 dL_isWhole_84 rfl ?_
          refine e_iconst dL_isWhole_85 (by unfold InR; decide) ?_
          refine e_iconst dL_isWhole_86 (by unfold InR; decide) ?_
          refine e_bipush (x := 6) dL_isWhole_87 ⟨by decide +kernel, by unfold InR; decide⟩ ?_
          refine e_iconst dL_isWhole_89 (by unfold InR; decide) ?_
          have o10 := h.1
          replace h := h.2
          refine i_VI (μ' := MX9_make) (ci := 8) (r := x0) (as := [vI 1, vI 5, vI 6, vI 5]) (st := []) rfl dL_isWhole_90 mOKX9_make ⟨mlL_132, imX9_make, seX9_make⟩ (by decide) (Nat.le_of_ble_eq_true rfl) rfl (Nat.le_of_ble_eq_true rfl) ⟨by decide, rfl⟩ o10 (CI.mono h ?_)
          clear h
          intro S90 I90 R90 x90_ h
          refine e_if_ge (tgt := 98) dL_isWhole_93 (by decide) (fun c => ?_) (fun c => ?_)
          · replace h := h.1 c
            refine e_iinc (ls2 := [(3, vI (w32 (x3 + 1))), (0, vR x0), (1, vI x1), (2, vI x2)]) 3 dL_isWhole_98 rfl (by decide) rfl ?_
            refine e_goto (tgt := 29) dL_isWhole_101 (by decide) ?_
            exact e_sub (ls2 := [(0, vR x0), (1, vI x1), (2, vI x2), (3, vI (w32 (x3 + 1)))]) [1, 2, 3, 0] rfl h
          · replace h := h.2 c
            refine e_iconst dL_isWhole_96 (by unfold InR; decide) ?_
            exact e_zreturn dL_isWhole_97 rfl (by decide) ⟨_, rfl, h⟩
      · replace h := h.2 c
        refine e_iconst dL_isWhole_69 (by unfold InR; decide) ?_
        exact e_zreturn dL_isWhole_70 rfl (by decide) ⟨_, rfl, h⟩
    · replace h := h.2 c
      refine e_aload_n 0 dL_isWhole_42 rfl ?_
      refine e_iconst dL_isWhole_43 (by unfold InR; decide) ?_
      refine e_iload_n 3 dL_isWhole_44 rfl ?_
      refine e_iadd dL_isWhole_45 ?_
      refine e_bipush (x := 6) dL_isWhole_46 ⟨by decide +kernel, by unfold InR; decide⟩ ?_
      have o11 := h.1
      replace h := h.2
      refine i_VI (μ' := MX9_kept) (ci := 8) (r := x0) (as := [vI (w32 (2 + x3)), vI 6]) (st := []) rfl dL_isWhole_48 mOKX9_kept ⟨mlL_87, imX9_kept, seX9_kept⟩ (by decide) (Nat.le_of_ble_eq_true rfl) rfl (Nat.le_of_ble_eq_true rfl) ⟨by decide, rfl⟩ o11 (CI.mono h ?_)
      clear h
      intro S48 I48 R48 x48_ h
      refine e_iconst dL_isWhole_51 (by unfold InR; decide) ?_
      refine e_icmp_eq (tgt := 98) dL_isWhole_52 (by decide) (fun c => ?_) (fun c => ?_)
      · replace h := h.1 c
        refine e_iinc (ls2 := [(3, vI (w32 (x3 + 1))), (0, vR x0), (1, vI x1), (2, vI x2)]) 3 dL_isWhole_98 rfl (by decide) rfl ?_
        refine e_goto (tgt := 29) dL_isWhole_101 (by decide) ?_
        exact e_sub (ls2 := [(0, vR x0), (1, vI x1), (2, vI x2), (3, vI (w32 (x3 + 1)))]) [1, 2, 3, 0] rfl h
      · replace h := h.2 c
        refine e_iconst dL_isWhole_55 (by unfold InR; decide) ?_
        exact e_zreturn dL_isWhole_56 rfl (by decide) ⟨_, rfl, h⟩

def LL_isLeft_14 (G : Gl) (x0 : Nat) (x1 : Int) (x2 : Int) (S : Sh) (I : MI) (R : MR) (Q : Sh → MI → MR → Int → Prop) : Prop := E G ML_isLeft 14 [(0, vR x0), (1, vI x1), (2, vI x2)] [] S I R (qI Q)
set_option maxRecDepth 100000 in
set_option maxHeartbeats 4000000 in
theorem bL_isLeft {G : Gl} {S : Sh} {I : MI} {R : MR} {Q : Sh → MI → MR → Int → Prop} {x0 : Nat} {x1 : Int} (h : (sT S x0 = 9 ∧ (CI G MX9_kept [vR x0, vI 0, vI 6] S I R (fun S4 I4 R4 x4_ => ((x4_ ≠ 0 → LL_isLeft_14 G x0 x1 1 S4 I4 R4 Q) ∧ (¬ (x4_ ≠ 0) → Q S4 I4 R4 1)))))) : CI G ML_isLeft [vR x0, vI x1] S I R Q := by
  show E G ML_isLeft 0 [(0, vR x0), (1, vI x1)] [] S I R (qI Q)
  refine e_aload_n 0 dL_isLeft_0 rfl ?_
  refine e_iconst dL_isLeft_1 (by unfold InR; decide) ?_
  refine e_bipush (x := 6) dL_isLeft_2 ⟨by decide +kernel, by unfold InR; decide⟩ ?_
  have o1 := h.1
  replace h := h.2
  refine i_VI (μ' := MX9_kept) (ci := 8) (r := x0) (as := [vI 0, vI 6]) (st := []) rfl dL_isLeft_4 mOKX9_kept ⟨mlL_87, imX9_kept, seX9_kept⟩ (by decide) (Nat.le_of_ble_eq_true rfl) rfl (Nat.le_of_ble_eq_true rfl) ⟨by decide, rfl⟩ o1 (CI.mono h ?_)
  clear h
  intro S4 I4 R4 x4_ h
  refine e_if_ne (tgt := 12) dL_isLeft_7 (by decide) (fun c => ?_) (fun c => ?_)
  · replace h := h.1 c
    refine e_iconst dL_isLeft_12 (by unfold InR; decide) ?_
    refine e_istore_n (ls2 := [(2, vI 1), (0, vR x0), (1, vI x1)]) dL_isLeft_13 (by decide) rfl ?_
    exact e_sub (ls2 := [(0, vR x0), (1, vI x1), (2, vI 1)]) [1, 2, 0] rfl h
  · replace h := h.2 c
    refine e_iconst dL_isLeft_10 (by unfold InR; decide) ?_
    exact e_zreturn dL_isLeft_11 rfl (by decide) ⟨_, rfl, h⟩
set_option maxRecDepth 100000 in
set_option maxHeartbeats 4000000 in
theorem bL_isLeft_14 {G : Gl} {S : Sh} {I : MI} {R : MR} {Q : Sh → MI → MR → Int → Prop} {x0 : Nat} {x1 : Int} {x2 : Int} (h : ((4 ≤ x2 → Q S I R 1) ∧ (¬ (4 ≤ x2) → (((iand (ishr x1 x2) 1) = 0 → LL_isLeft_14 G x0 x1 (w32 (x2 + 1)) S I R Q) ∧ (¬ ((iand (ishr x1 x2) 1) = 0) → (sT S x0 = 9 ∧ (CI G MX9_term [vR x0, vI x2, vI (-1), vI 0] S I R (fun S31 I31 R31 x31_ => ((x31_ ≠ 0 → (sT S31 x0 = 9 ∧ (CI G MX9_term [vR x0, vI x2, vI 0, vI 1] S31 I31 R31 (fun S44 I44 R44 x44_ => (sT S44 x0 = 9 ∧ (CI G MX9_term [vR x0, vI 6, vI 0, vI 1] S44 I44 R44 (fun S52 I52 R52 x52_ => ((x52_ < x44_ → LL_isLeft_14 G x0 x1 (w32 (x2 + 1)) S52 I52 R52 Q) ∧ (¬ (x52_ < x44_) → (sT S52 x0 = 9 ∧ (CI G MX9_term [vR x0, vI x2, vI 0, vI 2] S52 I52 R52 (fun S62 I62 R62 x62_ => (sT S62 x0 = 9 ∧ (CI G MX9_term [vR x0, vI 6, vI 0, vI 2] S62 I62 R62 (fun S70 I70 R70 x70_ => ((x70_ < x62_ → LL_isLeft_14 G x0 x1 (w32 (x2 + 1)) S70 I70 R70 Q) ∧ (¬ (x70_ < x62_) → (sT S70 x0 = 9 ∧ (CI G MX9_term [vR x0, vI x2, vI 0, vI 3] S70 I70 R70 (fun S80 I80 R80 x80_ => (sT S80 x0 = 9 ∧ (CI G MX9_term [vR x0, vI 6, vI 0, vI 3] S80 I80 R80 (fun S88 I88 R88 x88_ => ((x88_ < x80_ → LL_isLeft_14 G x0 x1 (w32 (x2 + 1)) S88 I88 R88 Q) ∧ (¬ (x88_ < x80_) → Q S88 I88 R88 0))))))))))))))))))))))))) ∧ (¬ (x31_ ≠ 0) → LL_isLeft_14 G x0 x1 (w32 (x2 + 1)) S31 I31 R31 Q)))))))))) : LL_isLeft_14 G x0 x1 x2 S I R Q := by
  show E G ML_isLeft 14 [(0, vR x0), (1, vI x1), (2, vI x2)] [] S I R (qI Q)
  refine e_iload_n 2 dL_isLeft_14 rfl ?_
  refine e_iconst dL_isLeft_15 (by unfold InR; decide) ?_
  refine e_icmp_ge (tgt := 102) dL_isLeft_16 (by decide) (fun c => ?_) (fun c => ?_)
  · replace h := h.1 c
    refine e_iconst dL_isLeft_102 (by unfold InR; decide) ?_
    exact e_zreturn dL_isLeft_103 rfl (by decide) ⟨_, rfl, h⟩
  · replace h := h.2 c
    refine e_iload_n 1 dL_isLeft_19 rfl ?_
    refine e_iload_n 2 dL_isLeft_20 rfl ?_
    refine e_ishr dL_isLeft_21 ?_
    refine e_iconst dL_isLeft_22 (by unfold InR; decide) ?_
    refine e_iand dL_isLeft_23 ?_
    refine e_if_eq (tgt := 96) dL_isLeft_24 (by decide) (fun c => ?_) (fun c => ?_)
    · replace h := h.1 c
      refine e_iinc (ls2 := [(2, vI (w32 (x2 + 1))), (0, vR x0), (1, vI x1)]) 2 dL_isLeft_96 rfl (by decide) rfl ?_
      refine e_goto (tgt := 14) dL_isLeft_99 (by decide) ?_
      exact e_sub (ls2 := [(0, vR x0), (1, vI x1), (2, vI (w32 (x2 + 1)))]) [1, 2, 0] rfl h
    · replace h := h.2 c
      refine e_aload_n 0 dL_isLeft_27 rfl ?_
      refine e_iload_n 2 dL_isLeft_28 rfl ?_
      refine e_iconst dL_isLeft_29 (by unfold InR; decide) ?_
      refine e_iconst dL_isLeft_30 (by unfold InR; decide) ?_
      have o2 := h.1
      replace h := h.2
      refine i_VI (μ' := MX9_term) (ci := 8) (r := x0) (as := [vI x2, vI (-1), vI 0]) (st := []) rfl dL_isLeft_31 mOKX9_term ⟨mlL_114, imX9_term, seX9_term⟩ (by decide) (Nat.le_of_ble_eq_true rfl) rfl (Nat.le_of_ble_eq_true rfl) ⟨by decide, rfl⟩ o2 (CI.mono h ?_)
      clear h
      intro S31 I31 R31 x31_ h
      refine e_if_ne (tgt := 40) dL_isLeft_34 (by decide) (fun c => ?_) (fun c => ?_)
      · replace h := h.1 c
        refine e_aload_n 0 dL_isLeft_40 rfl ?_
        refine e_iload_n 2 dL_isLeft_41 rfl ?_
        refine e_iconst dL_isLeft_42 (by unfold InR; decide) ?_
        refine e_iconst dL_isLeft_43 (by unfold InR; decide) ?_
        have o3 := h.1
        replace h := h.2
        refine i_VI (μ' := MX9_term) (ci := 8) (r := x0) (as := [vI x2, vI 0, vI 1]) (st := []) rfl dL_isLeft_44 mOKX9_term ⟨mlL_114, imX9_term, seX9_term⟩ (by decide) (Nat.le_of_ble_eq_true rfl) rfl (Nat.le_of_ble_eq_true rfl) ⟨by decide, rfl⟩ o3 (CI.mono h ?_)
        clear h
        intro S44 I44 R44 x44_ h
        refine e_aload_n 0 dL_isLeft_47 rfl ?_
        refine e_bipush (x := 6) dL_isLeft_48 ⟨by decide +kernel, by unfold InR; decide⟩ ?_
        refine e_iconst dL_isLeft_50 (by unfold InR; decide) ?_
        refine e_iconst dL_isLeft_51 (by unfold InR; decide) ?_
        have o4 := h.1
        replace h := h.2
        refine i_VI (μ' := MX9_term) (ci := 8) (r := x0) (as := [vI 6, vI 0, vI 1]) (st := [vI x44_]) rfl dL_isLeft_52 mOKX9_term ⟨mlL_114, imX9_term, seX9_term⟩ (by decide) (Nat.le_of_ble_eq_true rfl) rfl (Nat.le_of_ble_eq_true rfl) ⟨by decide, rfl⟩ o4 (CI.mono h ?_)
        clear h
        intro S52 I52 R52 x52_ h
        refine e_icmp_gt (tgt := 96) dL_isLeft_55 (by decide) (fun c => ?_) (fun c => ?_)
        · replace h := h.1 c
          refine e_iinc (ls2 := [(2, vI (w32 (x2 + 1))), (0, vR x0), (1, vI x1)]) 2 dL_isLeft_96 rfl (by decide) rfl ?_
          refine e_goto (tgt := 14) dL_isLeft_99 (by decide) ?_
          exact e_sub (ls2 := [(0, vR x0), (1, vI x1), (2, vI (w32 (x2 + 1)))]) [1, 2, 0] rfl h
        · replace h := h.2 c
          refine e_aload_n 0 dL_isLeft_58 rfl ?_
          refine e_iload_n 2 dL_isLeft_59 rfl ?_
          refine e_iconst dL_isLeft_60 (by unfold InR; decide) ?_
          refine e_iconst dL_isLeft_61 (by unfold InR; decide) ?_
          have o5 := h.1
          replace h := h.2
          refine i_VI (μ' := MX9_term) (ci := 8) (r := x0) (as := [vI x2, vI 0, vI 2]) (st := []) rfl dL_isLeft_62 mOKX9_term ⟨mlL_114, imX9_term, seX9_term⟩ (by decide) (Nat.le_of_ble_eq_true rfl) rfl (Nat.le_of_ble_eq_true rfl) ⟨by decide, rfl⟩ o5 (CI.mono h ?_)
          clear h
          intro S62 I62 R62 x62_ h
          refine e_aload_n 0 dL_isLeft_65 rfl ?_
          refine e_bipush (x := 6) dL_isLeft_66 ⟨by decide +kernel, by unfold InR; decide⟩ ?_
          refine e_iconst dL_isLeft_68 (by unfold InR; decide) ?_
          refine e_iconst dL_isLeft_69 (by unfold InR; decide) ?_
          have o6 := h.1
          replace h := h.2
          refine i_VI (μ' := MX9_term) (ci := 8) (r := x0) (as := [vI 6, vI 0, vI 2]) (st := [vI x62_]) rfl dL_isLeft_70 mOKX9_term ⟨mlL_114, imX9_term, seX9_term⟩ (by decide) (Nat.le_of_ble_eq_true rfl) rfl (Nat.le_of_ble_eq_true rfl) ⟨by decide, rfl⟩ o6 (CI.mono h ?_)
          clear h
          intro S70 I70 R70 x70_ h
          refine e_icmp_gt (tgt := 96) dL_isLeft_73 (by decide) (fun c => ?_) (fun c => ?_)
          · replace h := h.1 c
            refine e_iinc (ls2 := [(2, vI (w32 (x2 + 1))), (0, vR x0), (1, vI x1)]) 2 dL_isLeft_96 rfl (by decide) rfl ?_
            refine e_goto (tgt := 14) dL_isLeft_99 (by decide) ?_
            exact e_sub (ls2 := [(0, vR x0), (1, vI x1), (2, vI (w32 (x2 + 1)))]) [1, 2, 0] rfl h
          · replace h := h.2 c
            refine e_aload_n 0 dL_isLeft_76 rfl ?_
            refine e_iload_n 2 dL_isLeft_77 rfl ?_
            refine e_iconst dL_isLeft_78 (by unfold InR; decide) ?_
            refine e_iconst dL_isLeft_79 (by unfold InR; decide) ?_
            have o7 := h.1
            replace h := h.2
            refine i_VI (μ' := MX9_term) (ci := 8) (r := x0) (as := [vI x2, vI 0, vI 3]) (st := []) rfl dL_isLeft_80 mOKX9_term ⟨mlL_114, imX9_term, seX9_term⟩ (by decide) (Nat.le_of_ble_eq_true rfl) rfl (Nat.le_of_ble_eq_true rfl) ⟨by decide, rfl⟩ o7 (CI.mono h ?_)
            clear h
            intro S80 I80 R80 x80_ h
            refine e_aload_n 0 dL_isLeft_83 rfl ?_
            refine e_bipush (x := 6) dL_isLeft_84 ⟨by decide +kernel, by unfold InR; decide⟩ ?_
            refine e_iconst dL_isLeft_86 (by unfold InR; decide) ?_
            refine e_iconst dL_isLeft_87 (by unfold InR; decide) ?_
            have o8 := h.1
            replace h := h.2
            refine i_VI (μ' := MX9_term) (ci := 8) (r := x0) (as := [vI 6, vI 0, vI 3]) (st := [vI x80_]) rfl dL_isLeft_88 mOKX9_term ⟨mlL_114, imX9_term, seX9_term⟩ (by decide) (Nat.le_of_ble_eq_true rfl) rfl (Nat.le_of_ble_eq_true rfl) ⟨by decide, rfl⟩ o8 (CI.mono h ?_)
            clear h
            intro S88 I88 R88 x88_ h
            refine e_icmp_gt (tgt := 96) dL_isLeft_91 (by decide) (fun c => ?_) (fun c => ?_)
            · replace h := h.1 c
              refine e_iinc (ls2 := [(2, vI (w32 (x2 + 1))), (0, vR x0), (1, vI x1)]) 2 dL_isLeft_96 rfl (by decide) rfl ?_
              refine e_goto (tgt := 14) dL_isLeft_99 (by decide) ?_
              exact e_sub (ls2 := [(0, vR x0), (1, vI x1), (2, vI (w32 (x2 + 1)))]) [1, 2, 0] rfl h
            · replace h := h.2 c
              refine e_iconst dL_isLeft_94 (by unfold InR; decide) ?_
              exact e_zreturn dL_isLeft_95 rfl (by decide) ⟨_, rfl, h⟩
      · replace h := h.2 c
        refine e_goto (tgt := 96) dL_isLeft_37 (by decide) ?_
        refine e_iinc (ls2 := [(2, vI (w32 (x2 + 1))), (0, vR x0), (1, vI x1)]) 2 dL_isLeft_96 rfl (by decide) rfl ?_
        refine e_goto (tgt := 14) dL_isLeft_99 (by decide) ?_
        exact e_sub (ls2 := [(0, vR x0), (1, vI x1), (2, vI (w32 (x2 + 1)))]) [1, 2, 0] rfl h

def LL_isRest_50 (G : Gl) (x0 : Nat) (x1 : Int) (x2 : Int) (x3 : Int) (x4 : Int) (S : Sh) (I : MI) (R : MR) (Q : Sh → MI → MR → Int → Prop) : Prop := E G ML_isRest 50 [(0, vR x0), (1, vI x1), (2, vI x2), (3, vI x3), (4, vI x4)] [] S I R (qI Q)
def LL_isRest_114 (G : Gl) (x0 : Nat) (x1 : Int) (x2 : Int) (x4 : Int) (S : Sh) (I : MI) (R : MR) (Q : Sh → MI → MR → Int → Prop) : Prop := E G ML_isRest 114 [(0, vR x0), (1, vI x1), (2, vI x2), (4, vI x4)] [] S I R (qI Q)
set_option maxRecDepth 100000 in
set_option maxHeartbeats 4000000 in
theorem bL_isRest {G : Gl} {S : Sh} {I : MI} {R : MR} {Q : Sh → MI → MR → Int → Prop} {x0 : Nat} {x1 : Int} {x2 : Int} (h : (sT S x0 = 9 ∧ (CI G MX9_rest [vR x0, vI 0, vI x1, vI x2, vI 5] S I R (fun S5 I5 R5 x5_ => ((0 ≤ x5_ → (sT S5 x0 = 9 ∧ (CI G MX9_rest [vR x0, vI 5, vI x1, vI x2, vI 6] S5 I5 R5 (fun S21 I21 R21 x21_ => ((x21_ ≠ x5_ → Q S21 I21 R21 0) ∧ (¬ (x21_ ≠ x5_) → (CR G ML_said [vR x0, vI 5] S21 I21 R21 (fun S30 I30 R30 x30_ => (CR G ML_said [vR x0, vI 6] S30 I30 R30 (fun S36 I36 R36 x36_ => (sT S36 x30_ = 10 ∧ (CI G MJ0_equals_9ea2d [vR x30_, vR x36_] S36 I36 R36 (fun S39 I39 R39 x39_ => ((x39_ ≠ 0 → LL_isRest_50 G x0 x1 x2 x5_ 0 S39 I39 R39 Q) ∧ (¬ (x39_ ≠ 0) → Q S39 I39 R39 0))))))))))))))) ∧ (¬ (0 ≤ x5_) → Q S5 I5 R5 1)))))) : CI G ML_isRest [vR x0, vI x1, vI x2] S I R Q := by
  show E G ML_isRest 0 [(0, vR x0), (1, vI x1), (2, vI x2)] [] S I R (qI Q)
  refine e_aload_n 0 dL_isRest_0 rfl ?_
  refine e_iconst dL_isRest_1 (by unfold InR; decide) ?_
  refine e_iload_n 1 dL_isRest_2 rfl ?_
  refine e_iload_n 2 dL_isRest_3 rfl ?_
  refine e_iconst dL_isRest_4 (by unfold InR; decide) ?_
  have o1 := h.1
  replace h := h.2
  refine i_VI (μ' := MX9_rest) (ci := 8) (r := x0) (as := [vI 0, vI x1, vI x2, vI 5]) (st := []) rfl dL_isRest_5 mOKX9_rest ⟨mlL_136, imX9_rest, seX9_rest⟩ (by decide) (Nat.le_of_ble_eq_true rfl) rfl (Nat.le_of_ble_eq_true rfl) ⟨by decide, rfl⟩ o1 (CI.mono h ?_)
  clear h
  intro S5 I5 R5 x5_ h
  refine e_istore_n (ls2 := [(3, vI x5_), (0, vR x0), (1, vI x1), (2, vI x2)]) dL_isRest_8 (by decide) rfl ?_
  refine e_iload_n 0 dL_isRest_9 rfl ?_
  refine e_if_ge (tgt := 15) dL_isRest_10 (by decide) (fun c => ?_) (fun c => ?_)
  · replace h := h.1 c
    refine e_aload_n 1 dL_isRest_15 rfl ?_
    refine e_iconst dL_isRest_16 (by unfold InR; decide) ?_
    refine e_iload_n 2 dL_isRest_17 rfl ?_
    refine e_iload_n 3 dL_isRest_18 rfl ?_
    refine e_bipush (x := 6) dL_isRest_19 ⟨by decide +kernel, by unfold InR; decide⟩ ?_
    have o2 := h.1
    replace h := h.2
    refine i_VI (μ' := MX9_rest) (ci := 8) (r := x0) (as := [vI 5, vI x1, vI x2, vI 6]) (st := []) rfl dL_isRest_21 mOKX9_rest ⟨mlL_136, imX9_rest, seX9_rest⟩ (by decide) (Nat.le_of_ble_eq_true rfl) rfl (Nat.le_of_ble_eq_true rfl) ⟨by decide, rfl⟩ o2 (CI.mono h ?_)
    clear h
    intro S21 I21 R21 x21_ h
    refine e_iload_n 0 dL_isRest_24 rfl ?_
    refine e_icmp_ne (tgt := 45) dL_isRest_25 (by decide) (fun c => ?_) (fun c => ?_)
    · replace h := h.1 c
      refine e_iconst dL_isRest_45 (by unfold InR; decide) ?_
      exact e_zreturn dL_isRest_46 rfl (by decide) ⟨_, rfl, h⟩
    · replace h := h.2 c
      refine e_aload_n 1 dL_isRest_28 rfl ?_
      refine e_iconst dL_isRest_29 (by unfold InR; decide) ?_
      refine i_SR (μ' := ML_said) (as := [vR x0, vI 5]) (st := []) rfl dL_isRest_30 mOKL_said ⟨mlL_139, stL_said⟩ (by decide) (Nat.le_of_ble_eq_true rfl) rfl (Nat.le_of_ble_eq_true rfl) (CR.mono h ?_)
      clear h
      intro S30 I30 R30 x30_ h
      refine e_aload_n 1 dL_isRest_33 rfl ?_
      refine e_bipush (x := 6) dL_isRest_34 ⟨by decide +kernel, by unfold InR; decide⟩ ?_
      refine i_SR (μ' := ML_said) (as := [vR x0, vI 6]) (st := [vR x30_]) rfl dL_isRest_36 mOKL_said ⟨mlL_139, stL_said⟩ (by decide) (Nat.le_of_ble_eq_true rfl) rfl (Nat.le_of_ble_eq_true rfl) (CR.mono h ?_)
      clear h
      intro S36 I36 R36 x36_ h
      have o3 := h.1
      replace h := h.2
      refine i_VI (μ' := MJ0_equals_9ea2d) (ci := 9) (r := x30_) (as := [vR x36_]) (st := []) rfl dL_isRest_39 mOKJ0_equals_9ea2d ⟨mlL_143, imJ0_equals_9ea2d, seJ0_equals_9ea2d⟩ (by decide) (Nat.le_of_ble_eq_true rfl) rfl (Nat.le_of_ble_eq_true rfl) ⟨by decide, rfl⟩ o3 (CI.mono h ?_)
      clear h
      intro S39 I39 R39 x39_ h
      refine e_if_ne (tgt := 47) dL_isRest_42 (by decide) (fun c => ?_) (fun c => ?_)
      · replace h := h.1 c
        refine e_iconst dL_isRest_47 (by unfold InR; decide) ?_
        refine e_istore (ls2 := [(4, vI 0), (3, vI x5_), (0, vR x0), (1, vI x1), (2, vI x2)]) dL_isRest_48 (by decide) rfl ?_
        exact e_sub (ls2 := [(0, vR x0), (1, vI x1), (2, vI x2), (3, vI x5_), (4, vI 0)]) [2, 3, 4, 1, 0] rfl h
      · replace h := h.2 c
        refine e_iconst dL_isRest_45 (by unfold InR; decide) ?_
        exact e_zreturn dL_isRest_46 rfl (by decide) ⟨_, rfl, h⟩
  · replace h := h.2 c
    refine e_iconst dL_isRest_13 (by unfold InR; decide) ?_
    exact e_zreturn dL_isRest_14 rfl (by decide) ⟨_, rfl, h⟩
set_option maxRecDepth 100000 in
set_option maxHeartbeats 4000000 in
theorem bL_isRest_50 {G : Gl} {S : Sh} {I : MI} {R : MR} {Q : Sh → MI → MR → Int → Prop} {x0 : Nat} {x1 : Int} {x2 : Int} {x3 : Int} {x4 : Int} (h : ((x3 ≤ x4 → (sT S x0 = 9 ∧ (CI G MX9_make [vR x0, vI 1, vI 0, vI 5, vI 6] S I R (fun S82 I82 R82 x82_ => ((x82_ < 0 → (sT S82 x0 = 9 ∧ (CI G MX9_kept [vR x0, vI 0, vI 7] S82 I82 R82 (fun S107 I107 R107 x107_ => LL_isRest_114 G x0 x1 x2 1 S107 I107 R107 Q)))) ∧ (¬ (x82_ < 0) → (sT S82 x0 = 9 ∧ (CI G MX9_rest [vR x0, vI 6, vI x1, vI x2, vI 6] S82 I82 R82 (fun S95 I95 R95 x95_ => ((x95_ = 0 → (sT S95 x0 = 9 ∧ (CI G MX9_kept [vR x0, vI 0, vI 7] S95 I95 R95 (fun S107 I107 R107 x107_ => LL_isRest_114 G x0 x1 x2 1 S107 I107 R107 Q)))) ∧ (¬ (x95_ = 0) → Q S95 I95 R95 0))))))))))) ∧ (¬ (x3 ≤ x4) → (sT S x0 = 9 ∧ (CI G MX9_term [vR x0, vI 5, vI x4, vI 4] S I R (fun S61 I61 R61 x61_ => ((x61_ < x2 → LL_isRest_50 G x0 x1 x2 x3 (w32 (x4 + 1)) S61 I61 R61 Q) ∧ (¬ (x61_ < x2) → Q S61 I61 R61 0)))))))) : LL_isRest_50 G x0 x1 x2 x3 x4 S I R Q := by
  show E G ML_isRest 50 [(0, vR x0), (1, vI x1), (2, vI x2), (3, vI x3), (4, vI x4)] [] S I R (qI Q)
  refine e_iload 4 dL_isRest_50 rfl ?_
  refine e_iload_n 3 dL_isRest_52 rfl ?_
  refine e_icmp_ge (tgt := 76) dL_isRest_53 (by decide) (fun c => ?_) (fun c => ?_)
  · replace h := h.1 c
    refine e_aload_n 0 dL_isRest_76 rfl ?_
    refine e_iconst dL_isRest_77 (by unfold InR; decide) ?_
    refine e_iconst dL_isRest_78 (by unfold InR; decide) ?_
    refine e_iconst dL_isRest_79 (by unfold InR; decide) ?_
    refine e_bipush (x := 6) dL_isRest_80 ⟨by decide +kernel, by unfold InR; decide⟩ ?_
    have o4 := h.1
    replace h := h.2
    refine i_VI (μ' := MX9_make) (ci := 8) (r := x0) (as := [vI 1, vI 0, vI 5, vI 6]) (st := []) rfl dL_isRest_82 mOKX9_make ⟨mlL_132, imX9_make, seX9_make⟩ (by decide) (Nat.le_of_ble_eq_true rfl) rfl (Nat.le_of_ble_eq_true rfl) ⟨by decide, rfl⟩ o4 (CI.mono h ?_)
    clear h
    intro S82 I82 R82 x82_ h
    refine e_if_lt (tgt := 103) dL_isRest_85 (by decide) (fun c => ?_) (fun c => ?_)
    · replace h := h.1 c
      refine e_aload_n 0 dL_isRest_103 rfl ?_
      refine e_iconst dL_isRest_104 (by unfold InR; decide) ?_
      refine e_bipush (x := 7) dL_isRest_105 ⟨by decide +kernel, by unfold InR; decide⟩ ?_
      have o5 := h.1
      replace h := h.2
      refine i_VI (μ' := MX9_kept) (ci := 8) (r := x0) (as := [vI 0, vI 7]) (st := []) rfl dL_isRest_107 mOKX9_kept ⟨mlL_87, imX9_kept, seX9_kept⟩ (by decide) (Nat.le_of_ble_eq_true rfl) rfl (Nat.le_of_ble_eq_true rfl) ⟨by decide, rfl⟩ o5 (CI.mono h ?_)
      clear h
      intro S107 I107 R107 x107_ h
      refine e_pop dL_isRest_110 rfl ?_
      refine e_iconst dL_isRest_111 (by unfold InR; decide) ?_
      refine e_istore (ls2 := [(4, vI 1), (0, vR x0), (1, vI x1), (2, vI x2), (3, vI x3)]) dL_isRest_112 (by decide) rfl ?_
      exact e_sub (ls2 := [(0, vR x0), (1, vI x1), (2, vI x2), (4, vI 1)]) [1, 2, 3, 0] rfl h
    · replace h := h.2 c
      refine e_aload_n 0 dL_isRest_88 rfl ?_
      refine e_bipush (x := 6) dL_isRest_89 ⟨by decide +kernel, by unfold InR; decide⟩ ?_
      refine e_iload_n 1 dL_isRest_91 rfl ?_
      refine e_iload_n 2 dL_isRest_92 rfl ?_
      refine e_bipush (x := 6) dL_isRest_93 ⟨by decide +kernel, by unfold InR; decide⟩ ?_
      have o6 := h.1
      replace h := h.2
      refine i_VI (μ' := MX9_rest) (ci := 8) (r := x0) (as := [vI 6, vI x1, vI x2, vI 6]) (st := []) rfl dL_isRest_95 mOKX9_rest ⟨mlL_136, imX9_rest, seX9_rest⟩ (by decide) (Nat.le_of_ble_eq_true rfl) rfl (Nat.le_of_ble_eq_true rfl) ⟨by decide, rfl⟩ o6 (CI.mono h ?_)
      clear h
      intro S95 I95 R95 x95_ h
      refine e_if_eq (tgt := 103) dL_isRest_98 (by decide) (fun c => ?_) (fun c => ?_)
      · replace h := h.1 c
        refine e_aload_n 0 dL_isRest_103 rfl ?_
        refine e_iconst dL_isRest_104 (by unfold InR; decide) ?_
        refine e_bipush (x := 7) dL_isRest_105 ⟨by decide +kernel, by unfold InR; decide⟩ ?_
        have o7 := h.1
        replace h := h.2
        refine i_VI (μ' := MX9_kept) (ci := 8) (r := x0) (as := [vI 0, vI 7]) (st := []) rfl dL_isRest_107 mOKX9_kept ⟨mlL_87, imX9_kept, seX9_kept⟩ (by decide) (Nat.le_of_ble_eq_true rfl) rfl (Nat.le_of_ble_eq_true rfl) ⟨by decide, rfl⟩ o7 (CI.mono h ?_)
        clear h
        intro S107 I107 R107 x107_ h
        refine e_pop dL_isRest_110 rfl ?_
        refine e_iconst dL_isRest_111 (by unfold InR; decide) ?_
        refine e_istore (ls2 := [(4, vI 1), (0, vR x0), (1, vI x1), (2, vI x2), (3, vI x3)]) dL_isRest_112 (by decide) rfl ?_
        exact e_sub (ls2 := [(0, vR x0), (1, vI x1), (2, vI x2), (4, vI 1)]) [1, 2, 3, 0] rfl h
      · replace h := h.2 c
        refine e_iconst dL_isRest_101 (by unfold InR; decide) ?_
        exact e_zreturn dL_isRest_102 rfl (by decide) ⟨_, rfl, h⟩
  · replace h := h.2 c
    refine e_aload_n 0 dL_isRest_56 rfl ?_
    refine e_iconst dL_isRest_57 (by unfold InR; decide) ?_
    refine e_iload 4 dL_isRest_58 rfl ?_
    refine e_iconst dL_isRest_60 (by unfold InR; decide) ?_
    have o8 := h.1
    replace h := h.2
    refine i_VI (μ' := MX9_term) (ci := 8) (r := x0) (as := [vI 5, vI x4, vI 4]) (st := []) rfl dL_isRest_61 mOKX9_term ⟨mlL_114, imX9_term, seX9_term⟩ (by decide) (Nat.le_of_ble_eq_true rfl) rfl (Nat.le_of_ble_eq_true rfl) ⟨by decide, rfl⟩ o8 (CI.mono h ?_)
    clear h
    intro S61 I61 R61 x61_ h
    refine e_iload_n 2 dL_isRest_64 rfl ?_
    refine e_icmp_lt (tgt := 70) dL_isRest_65 (by decide) (fun c => ?_) (fun c => ?_)
    · replace h := h.1 c
      refine e_iinc (ls2 := [(4, vI (w32 (x4 + 1))), (0, vR x0), (1, vI x1), (2, vI x2), (3, vI x3)]) 4 dL_isRest_70 rfl (by decide) rfl ?_
      refine e_goto (tgt := 50) dL_isRest_73 (by decide) ?_
      exact e_sub (ls2 := [(0, vR x0), (1, vI x1), (2, vI x2), (3, vI x3), (4, vI (w32 (x4 + 1)))]) [1, 2, 3, 4, 0] rfl h
    · replace h := h.2 c
      refine e_iconst dL_isRest_68 (by unfold InR; decide) ?_
      exact e_zreturn dL_isRest_69 rfl (by decide) ⟨_, rfl, h⟩
set_option maxRecDepth 100000 in
set_option maxHeartbeats 4000000 in
theorem bL_isRest_114 {G : Gl} {S : Sh} {I : MI} {R : MR} {Q : Sh → MI → MR → Int → Prop} {x0 : Nat} {x1 : Int} {x2 : Int} {x4 : Int} (h : ((4 ≤ x4 → (sT S x0 = 9 ∧ (CI G MX9_stairs [vR x0, vI x1, vI x2, vI (-1)] S I R (fun S155 I155 R155 x155_ => ((x155_ < 0 → Q S155 I155 R155 0) ∧ (¬ (x155_ < 0) → Q S155 I155 R155 1)))))) ∧ (¬ (4 ≤ x4) → (((iand (ishr x1 x4) 1) ≠ 1 → LL_isRest_114 G x0 x1 x2 (w32 (x4 + 1)) S I R Q) ∧ (¬ ((iand (ishr x1 x4) 1) ≠ 1) → (sT S x0 = 9 ∧ (CI G MX9_rest [vR x0, vI x4, vI x1, vI x2, vI 6] S I R (fun S137 I137 R137 x137_ => ((x137_ = 0 → LL_isRest_114 G x0 x1 x2 (w32 (x4 + 1)) S137 I137 R137 Q) ∧ (¬ (x137_ = 0) → Q S137 I137 R137 0)))))))))) : LL_isRest_114 G x0 x1 x2 x4 S I R Q := by
  show E G ML_isRest 114 [(0, vR x0), (1, vI x1), (2, vI x2), (4, vI x4)] [] S I R (qI Q)
  refine e_iload 3 dL_isRest_114 rfl ?_
  refine e_iconst dL_isRest_116 (by unfold InR; decide) ?_
  refine e_icmp_ge (tgt := 151) dL_isRest_117 (by decide) (fun c => ?_) (fun c => ?_)
  · replace h := h.1 c
    refine e_aload_n 0 dL_isRest_151 rfl ?_
    refine e_iload_n 1 dL_isRest_152 rfl ?_
    refine e_iload_n 2 dL_isRest_153 rfl ?_
    refine e_iconst dL_isRest_154 (by unfold InR; decide) ?_
    have o9 := h.1
    replace h := h.2
    refine i_VI (μ' := MX9_stairs) (ci := 8) (r := x0) (as := [vI x1, vI x2, vI (-1)]) (st := []) rfl dL_isRest_155 mOKX9_stairs ⟨mlL_147, imX9_stairs, seX9_stairs⟩ (by decide) (Nat.le_of_ble_eq_true rfl) rfl (Nat.le_of_ble_eq_true rfl) ⟨by decide, rfl⟩ o9 (CI.mono h ?_)
    clear h
    intro S155 I155 R155 x155_ h
    refine e_if_lt (tgt := 165) dL_isRest_158 (by decide) (fun c => ?_) (fun c => ?_)
    · replace h := h.1 c
      refine e_iconst dL_isRest_165 (by unfold InR; decide) ?_
      exact e_zreturn dL_isRest_166 rfl (by decide) ⟨_, rfl, h⟩
    · replace h := h.2 c
      refine e_iconst dL_isRest_161 (by unfold InR; decide) ?_
      refine e_goto (tgt := 166) dL_isRest_162 (by decide) ?_
      exact e_zreturn dL_isRest_166 rfl (by decide) ⟨_, rfl, h⟩
  · replace h := h.2 c
    refine e_iload_n 1 dL_isRest_120 rfl ?_
    refine e_iload 3 dL_isRest_121 rfl ?_
    refine e_ishr dL_isRest_123 ?_
    refine e_iconst dL_isRest_124 (by unfold InR; decide) ?_
    refine e_iand dL_isRest_125 ?_
    refine e_iconst dL_isRest_126 (by unfold InR; decide) ?_
    refine e_icmp_ne (tgt := 145) dL_isRest_127 (by decide) (fun c => ?_) (fun c => ?_)
    · replace h := h.1 c
      refine e_iinc (ls2 := [(4, vI (w32 (x4 + 1))), (0, vR x0), (1, vI x1), (2, vI x2)]) 3 dL_isRest_145 rfl (by decide) rfl ?_
      refine e_goto (tgt := 114) dL_isRest_148 (by decide) ?_
      exact e_sub (ls2 := [(0, vR x0), (1, vI x1), (2, vI x2), (4, vI (w32 (x4 + 1)))]) [1, 2, 3, 0] rfl h
    · replace h := h.2 c
      refine e_aload_n 0 dL_isRest_130 rfl ?_
      refine e_iload 3 dL_isRest_131 rfl ?_
      refine e_iload_n 1 dL_isRest_133 rfl ?_
      refine e_iload_n 2 dL_isRest_134 rfl ?_
      refine e_bipush (x := 6) dL_isRest_135 ⟨by decide +kernel, by unfold InR; decide⟩ ?_
      have o10 := h.1
      replace h := h.2
      refine i_VI (μ' := MX9_rest) (ci := 8) (r := x0) (as := [vI x4, vI x1, vI x2, vI 6]) (st := []) rfl dL_isRest_137 mOKX9_rest ⟨mlL_136, imX9_rest, seX9_rest⟩ (by decide) (Nat.le_of_ble_eq_true rfl) rfl (Nat.le_of_ble_eq_true rfl) ⟨by decide, rfl⟩ o10 (CI.mono h ?_)
      clear h
      intro S137 I137 R137 x137_ h
      refine e_if_eq (tgt := 145) dL_isRest_140 (by decide) (fun c => ?_) (fun c => ?_)
      · replace h := h.1 c
        refine e_iinc (ls2 := [(4, vI (w32 (x4 + 1))), (0, vR x0), (1, vI x1), (2, vI x2)]) 3 dL_isRest_145 rfl (by decide) rfl ?_
        refine e_goto (tgt := 114) dL_isRest_148 (by decide) ?_
        exact e_sub (ls2 := [(0, vR x0), (1, vI x1), (2, vI x2), (4, vI (w32 (x4 + 1)))]) [1, 2, 3, 0] rfl h
      · replace h := h.2 c
        refine e_iconst dL_isRest_143 (by unfold InR; decide) ?_
        exact e_zreturn dL_isRest_144 rfl (by decide) ⟨_, rfl, h⟩

def LL_law_42 (G : Gl) (x1 : Nat) (x2 : Int) (y0 : Int) (y1 : Int) (y2 : Nat) (S : Sh) (I : MI) (R : MR) (Q : PQ) : Prop := E G M_law 42 [(0, vS), (1, vR x1), (2, vI x2)] [vI y0, vI y1, vR y2] S I R Q
def LL_law_111 (G : Gl) (x1 : Nat) (x2 : Int) (x4 : Int) (S : Sh) (I : MI) (R : MR) (Q : PQ) : Prop := E G M_law 111 [(0, vS), (1, vR x1), (2, vI x2), (4, vI x4)] [] S I R Q
def LL_law_206 (G : Gl) (x1 : Nat) (x4 : Int) (S : Sh) (I : MI) (R : MR) (Q : PQ) : Prop := E G M_law 206 [(0, vS), (1, vR x1), (4, vI x4)] [] S I R Q
set_option maxRecDepth 100000 in
set_option maxHeartbeats 4000000 in
theorem bL_law {G : Gl} {S : Sh} {I : MI} {R : MR} {Q : PQ}  (h : (∀ S0 I0 R0, S0 = shNew S 9 0 11 → I0 = mNew I (sN S) 0 → R0 = mNew R (sN S) 0 → (sT S0 (sN S) ≠ 0 ∧ (CV G MX9_init [vR (sN S)] S0 I0 R0 (fun S4 I4 R4 => (CI G ML_cell [vS, vI 0] S4 I4 R4 (fun S10 I10 R10 x10_ => ((pL_between x10_ 1 3) ∧ (CI G ML_cell [vS, vI 1] S10 I10 R10 (fun S23 I23 R23 x23_ => ((pL_between x23_ 0 2) ∧ (((vL_between x23_ 0 2) ≠ 0 → LL_law_42 G (sN S) (vL_between x10_ 1 3) 32003 (vL_between x10_ 1 3) (sN S) S23 I23 R23 Q) ∧ (¬ ((vL_between x23_ 0 2) ≠ 0) → LL_law_42 G (sN S) (vL_between x10_ 1 3) 7 (vL_between x10_ 1 3) (sN S) S23 I23 R23 Q))))))))))))) : E G M_law 0 [(0, vS)] [] S I R Q := by
  show E G M_law 0 [(0, vS)] [] S I R Q
  obtain ⟨S0, eS0⟩ : ∃ z : Sh, z = shNew S 9 0 11 := ⟨_, rfl⟩
  obtain ⟨I0, eI0⟩ : ∃ z : MI, z = mNew I (sN S) 0 := ⟨_, rfl⟩
  obtain ⟨R0, eR0⟩ : ∃ z : MR, z = mNew R (sN S) 0 := ⟨_, rfl⟩
  replace h := h S0 I0 R0 eS0 eI0 eR0
  refine e_new (ci := 8) dL_law_0 (by decide) ⟨clL_20, is8, ii8⟩ (eqS eS0 (eqI eI0 (eqR eR0 ?_)))
  refine e_dup dL_law_3 rfl ?_
  have o1 := h.1
  replace h := h.2
  refine i_IV (μ' := MX9_init) (r := (sN S)) (as := []) (st := [vR (sN S)]) rfl dL_law_4 mOKX9_init ⟨mlL_74, imX9_init⟩ ⟨rfl, rfl⟩ (by decide) (Nat.le_of_ble_eq_true rfl) rfl (Nat.le_of_ble_eq_true rfl) o1 (CV.mono h ?_)
  clear h
  intro S4 I4 R4 h
  refine e_astore_n (ls2 := [(1, vR (sN S)), (0, vS)]) dL_law_7 (by decide) rfl ?_
  refine e_aload_n 1 dL_law_8 rfl ?_
  refine e_iconst dL_law_9 (by unfold InR; decide) ?_
  refine i_SI (μ' := ML_cell) (as := [vS, vI 0]) (st := []) rfl dL_law_10 mOKL_cell ⟨mlL_75, stL_cell⟩ (by decide) (Nat.le_of_ble_eq_true rfl) rfl (Nat.le_of_ble_eq_true rfl) (CI.mono h ?_)
  clear h
  intro S10 I10 R10 x10_ h
  refine e_iconst dL_law_13 (by unfold InR; decide) ?_
  refine e_iconst dL_law_14 (by unfold InR; decide) ?_
  have o2 := h.1
  replace h := h.2
  refine i_SI (μ' := ML_between) (as := [vI x10_, vI 1, vI 3]) (st := []) rfl dL_law_15 mOKL_between ⟨mlL_50, stL_between⟩ (by decide) (Nat.le_of_ble_eq_true rfl) rfl (Nat.le_of_ble_eq_true rfl) (sL_between o2 ?_)
  refine e_istore_n (ls2 := [(2, vI (vL_between x10_ 1 3)), (1, vR (sN S)), (0, vS)]) dL_law_18 (by decide) rfl ?_
  refine e_aload_n 1 dL_law_19 rfl ?_
  refine e_iload_n 0 dL_law_20 rfl ?_
  refine e_aload_n 2 dL_law_21 rfl ?_
  refine e_iconst dL_law_22 (by unfold InR; decide) ?_
  refine i_SI (μ' := ML_cell) (as := [vS, vI 1]) (st := [vI (vL_between x10_ 1 3), vR (sN S)]) rfl dL_law_23 mOKL_cell ⟨mlL_75, stL_cell⟩ (by decide) (Nat.le_of_ble_eq_true rfl) rfl (Nat.le_of_ble_eq_true rfl) (CI.mono h ?_)
  clear h
  intro S23 I23 R23 x23_ h
  refine e_iconst dL_law_26 (by unfold InR; decide) ?_
  refine e_iconst dL_law_27 (by unfold InR; decide) ?_
  have o3 := h.1
  replace h := h.2
  refine i_SI (μ' := ML_between) (as := [vI x23_, vI 0, vI 2]) (st := [vI (vL_between x10_ 1 3), vR (sN S)]) rfl dL_law_28 mOKL_between ⟨mlL_50, stL_between⟩ (by decide) (Nat.le_of_ble_eq_true rfl) rfl (Nat.le_of_ble_eq_true rfl) (sL_between o3 ?_)
  refine e_if_ne (tgt := 39) dL_law_31 (by decide) (fun c => ?_) (fun c => ?_)
  · replace h := h.1 c
    refine e_sipush (x := 32003) dL_law_39 ⟨by decide +kernel, by unfold InR; decide⟩ ?_
    exact e_sub (ls2 := [(0, vS), (1, vR (sN S)), (2, vI (vL_between x10_ 1 3))]) [2, 1, 0] rfl h
  · replace h := h.2 c
    refine e_bipush (x := 7) dL_law_34 ⟨by decide +kernel, by unfold InR; decide⟩ ?_
    refine e_goto (tgt := 42) dL_law_36 (by decide) ?_
    exact e_sub (ls2 := [(0, vS), (1, vR (sN S)), (2, vI (vL_between x10_ 1 3))]) [2, 1, 0] rfl h
set_option maxRecDepth 100000 in
set_option maxHeartbeats 4000000 in
theorem bL_law_42 {G : Gl} {S : Sh} {I : MI} {R : MR} {Q : PQ} {x1 : Nat} {x2 : Int} {y0 : Int} {y1 : Int} {y2 : Nat} (h : (sT S y2 = 9 ∧ (CI G MX9_ring [vR y2, vI y1, vI y0] S I R (fun S42 I42 R42 x42_ => ((x42_ = 0 → Q S42 I42 R42 (vI 0)) ∧ (¬ (x42_ = 0) → (sT S42 x1 = 9 ∧ (CI G MX9_step [vR x1, vI (-1), vI 0] S42 I42 R42 (fun S51 I51 R51 x51_ => ((x51_ ≠ (-1) → Q S51 I51 R51 (vI 0)) ∧ (¬ (x51_ ≠ (-1)) → (sT S51 x1 = 9 ∧ (CI G MX9_kept [vR x1, vI 0, vI 0] S51 I51 R51 (fun S61 I61 R61 x61_ => ((x61_ = (-1) → (CI G ML_cell [vS, vI 2] S61 I61 R61 (fun S72 I72 R72 x72_ => ((pL_between x72_ 1 3) ∧ ((pL_between (ishr x72_ 3) 1 3) ∧ ((pL_between (ishr x72_ 6) 1 3) ∧ (sT S72 x1 = 9 ∧ (CI G MX9_weights [vR x1, vI (vL_between x72_ 1 3), vI (vL_between (ishr x72_ 3) 1 3), vI (vL_between (ishr x72_ 6) 1 3)] S72 I72 R72 (fun S100 I100 R100 x100_ => ((x100_ ≠ 0 → LL_law_111 G x1 x2 0 S100 I100 R100 Q) ∧ (¬ (x100_ ≠ 0) → Q S100 I100 R100 (vI 0)))))))))))) ∧ (¬ (x61_ = (-1)) → Q S61 I61 R61 (vI 0))))))))))))))))) : LL_law_42 G x1 x2 y0 y1 y2 S I R Q := by
  show E G M_law 42 [(0, vS), (1, vR x1), (2, vI x2)] [vI y0, vI y1, vR y2] S I R Q
  have o4 := h.1
  replace h := h.2
  refine i_VI (μ' := MX9_ring) (ci := 8) (r := y2) (as := [vI y1, vI y0]) (st := []) rfl dL_law_42 mOKX9_ring ⟨mlL_79, imX9_ring, seX9_ring⟩ (by decide) (Nat.le_of_ble_eq_true rfl) rfl (Nat.le_of_ble_eq_true rfl) ⟨by decide, rfl⟩ o4 (CI.mono h ?_)
  clear h
  intro S42 I42 R42 x42_ h
  refine e_if_eq (tgt := 68) dL_law_45 (by decide) (fun c => ?_) (fun c => ?_)
  · replace h := h.1 c
    refine e_iconst dL_law_68 (by unfold InR; decide) ?_
    exact e_zreturn dL_law_69 rfl (by decide) h
  · replace h := h.2 c
    refine e_aload_n 1 dL_law_48 rfl ?_
    refine e_iconst dL_law_49 (by unfold InR; decide) ?_
    refine e_iconst dL_law_50 (by unfold InR; decide) ?_
    have o5 := h.1
    replace h := h.2
    refine i_VI (μ' := MX9_step) (ci := 8) (r := x1) (as := [vI (-1), vI 0]) (st := []) rfl dL_law_51 mOKX9_step ⟨mlL_83, imX9_step, seX9_step⟩ (by decide) (Nat.le_of_ble_eq_true rfl) rfl (Nat.le_of_ble_eq_true rfl) ⟨by decide, rfl⟩ o5 (CI.mono h ?_)
    clear h
    intro S51 I51 R51 x51_ h
    refine e_iconst dL_law_54 (by unfold InR; decide) ?_
    refine e_icmp_ne (tgt := 68) dL_law_55 (by decide) (fun c => ?_) (fun c => ?_)
    · replace h := h.1 c
      refine e_iconst dL_law_68 (by unfold InR; decide) ?_
      exact e_zreturn dL_law_69 rfl (by decide) h
    · replace h := h.2 c
      refine e_aload_n 1 dL_law_58 rfl ?_
      refine e_iconst dL_law_59 (by unfold InR; decide) ?_
      refine e_iconst dL_law_60 (by unfold InR; decide) ?_
      have o6 := h.1
      replace h := h.2
      refine i_VI (μ' := MX9_kept) (ci := 8) (r := x1) (as := [vI 0, vI 0]) (st := []) rfl dL_law_61 mOKX9_kept ⟨mlL_87, imX9_kept, seX9_kept⟩ (by decide) (Nat.le_of_ble_eq_true rfl) rfl (Nat.le_of_ble_eq_true rfl) ⟨by decide, rfl⟩ o6 (CI.mono h ?_)
      clear h
      intro S61 I61 R61 x61_ h
      refine e_iconst dL_law_64 (by unfold InR; decide) ?_
      refine e_icmp_eq (tgt := 70) dL_law_65 (by decide) (fun c => ?_) (fun c => ?_)
      · replace h := h.1 c
        refine e_aload_n 0 dL_law_70 rfl ?_
        refine e_iconst dL_law_71 (by unfold InR; decide) ?_
        refine i_SI (μ' := ML_cell) (as := [vS, vI 2]) (st := []) rfl dL_law_72 mOKL_cell ⟨mlL_75, stL_cell⟩ (by decide) (Nat.le_of_ble_eq_true rfl) rfl (Nat.le_of_ble_eq_true rfl) (CI.mono h ?_)
        clear h
        intro S72 I72 R72 x72_ h
        refine e_istore_n (ls2 := [(3, vI x72_), (0, vS), (1, vR x1), (2, vI x2)]) dL_law_75 (by decide) rfl ?_
        refine e_aload_n 2 dL_law_76 rfl ?_
        refine e_iload_n 0 dL_law_77 rfl ?_
        refine e_iconst dL_law_78 (by unfold InR; decide) ?_
        refine e_iconst dL_law_79 (by unfold InR; decide) ?_
        have o7 := h.1
        replace h := h.2
        refine i_SI (μ' := ML_between) (as := [vI x72_, vI 1, vI 3]) (st := [vR x1]) rfl dL_law_80 mOKL_between ⟨mlL_50, stL_between⟩ (by decide) (Nat.le_of_ble_eq_true rfl) rfl (Nat.le_of_ble_eq_true rfl) (sL_between o7 ?_)
        refine e_iload_n 0 dL_law_83 rfl ?_
        refine e_iconst dL_law_84 (by unfold InR; decide) ?_
        refine e_ishr dL_law_85 ?_
        refine e_iconst dL_law_86 (by unfold InR; decide) ?_
        refine e_iconst dL_law_87 (by unfold InR; decide) ?_
        have o8 := h.1
        replace h := h.2
        refine i_SI (μ' := ML_between) (as := [vI (ishr x72_ 3), vI 1, vI 3]) (st := [vI (vL_between x72_ 1 3), vR x1]) rfl dL_law_88 mOKL_between ⟨mlL_50, stL_between⟩ (by decide) (Nat.le_of_ble_eq_true rfl) rfl (Nat.le_of_ble_eq_true rfl) (sL_between o8 ?_)
        refine e_iload_n 0 dL_law_91 rfl ?_
        refine e_bipush (x := 6) dL_law_92 ⟨by decide +kernel, by unfold InR; decide⟩ ?_
        refine e_ishr dL_law_94 ?_
        refine e_iconst dL_law_95 (by unfold InR; decide) ?_
        refine e_iconst dL_law_96 (by unfold InR; decide) ?_
        have o9 := h.1
        replace h := h.2
        refine i_SI (μ' := ML_between) (as := [vI (ishr x72_ 6), vI 1, vI 3]) (st := [vI (vL_between (ishr x72_ 3) 1 3), vI (vL_between x72_ 1 3), vR x1]) rfl dL_law_97 mOKL_between ⟨mlL_50, stL_between⟩ (by decide) (Nat.le_of_ble_eq_true rfl) rfl (Nat.le_of_ble_eq_true rfl) (sL_between o9 ?_)
        have o10 := h.1
        replace h := h.2
        refine i_VI (μ' := MX9_weights) (ci := 8) (r := x1) (as := [vI (vL_between x72_ 1 3), vI (vL_between (ishr x72_ 3) 1 3), vI (vL_between (ishr x72_ 6) 1 3)]) (st := []) rfl dL_law_100 mOKX9_weights ⟨mlL_90, imX9_weights, seX9_weights⟩ (by decide) (Nat.le_of_ble_eq_true rfl) rfl (Nat.le_of_ble_eq_true rfl) ⟨by decide, rfl⟩ o10 (CI.mono h ?_)
        clear h
        intro S100 I100 R100 x100_ h
        refine e_if_ne (tgt := 108) dL_law_103 (by decide) (fun c => ?_) (fun c => ?_)
        · replace h := h.1 c
          refine e_iconst dL_law_108 (by unfold InR; decide) ?_
          refine e_istore (ls2 := [(4, vI 0), (3, vI x72_), (0, vS), (1, vR x1), (2, vI x2)]) dL_law_109 (by decide) rfl ?_
          exact e_sub (ls2 := [(0, vS), (1, vR x1), (2, vI x2), (4, vI 0)]) [2, 3, 4, 0] rfl h
        · replace h := h.2 c
          refine e_iconst dL_law_106 (by unfold InR; decide) ?_
          exact e_zreturn dL_law_107 rfl (by decide) h
      · replace h := h.2 c
        refine e_iconst dL_law_68 (by unfold InR; decide) ?_
        exact e_zreturn dL_law_69 rfl (by decide) h
set_option maxRecDepth 100000 in
set_option maxHeartbeats 4000000 in
theorem bL_law_111 {G : Gl} {S : Sh} {I : MI} {R : MR} {Q : PQ} {x1 : Nat} {x2 : Int} {x4 : Int} (h : ((4 ≤ x4 → LL_law_206 G x1 0 S I R Q) ∧ (¬ (4 ≤ x4) → (CI G ML_cell [vS, vI (w32 (3 + (w32 (2 * x4))))] S I R (fun S127 I127 R127 x127_ => (CI G ML_cell [vS, vI (w32 (4 + (w32 (2 * x4))))] S127 I127 R127 (fun S137 I137 R137 x137_ => (CI G ML_cell [vS, vI (w32 (3 + (w32 (2 * x4))))] S137 I137 R137 (fun S148 I148 R148 x148_ => ((pL_between (ishr x148_ 20) 1 4) ∧ ((x4 ≠ 0 → (CI G ML_cell [vS, vI (w32 (4 + (w32 (2 * x4))))] S148 I148 R148 (fun S175 I175 R175 x175_ => ((pL_between (ishr x175_ 20) 0 3) ∧ (CR G ML_drawn [vI x127_, vI x137_, vI x2, vI (vL_between (ishr x148_ 20) 1 4), vI (vL_between (ishr x175_ 20) 0 3)] S175 I175 R175 (fun S186 I186 R186 x186_ => (CI G ML_poly [vR x1, vI x4, vR x186_] S186 I186 R186 (fun S189 I189 R189 x189_ => ((0 ≤ x189_ → LL_law_111 G x1 x2 (w32 (x4 + 1)) S189 I189 R189 Q) ∧ (¬ (0 ≤ x189_) → Q S189 I189 R189 (vI 0))))))))))) ∧ (¬ (x4 ≠ 0) → (CR G ML_drawn [vI x127_, vI x137_, vI x2, vI (vL_between (ishr x148_ 20) 1 4), vI 1] S148 I148 R148 (fun S186 I186 R186 x186_ => (CI G ML_poly [vR x1, vI x4, vR x186_] S186 I186 R186 (fun S189 I189 R189 x189_ => ((0 ≤ x189_ → LL_law_111 G x1 x2 (w32 (x4 + 1)) S189 I189 R189 Q) ∧ (¬ (0 ≤ x189_) → Q S189 I189 R189 (vI 0))))))))))))))))))) : LL_law_111 G x1 x2 x4 S I R Q := by
  show E G M_law 111 [(0, vS), (1, vR x1), (2, vI x2), (4, vI x4)] [] S I R Q
  refine e_iload 3 dL_law_111 rfl ?_
  refine e_iconst dL_law_113 (by unfold InR; decide) ?_
  refine e_icmp_ge (tgt := 203) dL_law_114 (by decide) (fun c => ?_) (fun c => ?_)
  · replace h := h.1 c
    refine e_iconst dL_law_203 (by unfold InR; decide) ?_
    refine e_istore (ls2 := [(4, vI 0), (0, vS), (1, vR x1), (2, vI x2)]) dL_law_204 (by decide) rfl ?_
    exact e_sub (ls2 := [(0, vS), (1, vR x1), (4, vI 0)]) [1, 2, 0] rfl h
  · replace h := h.2 c
    refine e_aload_n 1 dL_law_117 rfl ?_
    refine e_iload 3 dL_law_118 rfl ?_
    refine e_aload_n 0 dL_law_120 rfl ?_
    refine e_iconst dL_law_121 (by unfold InR; decide) ?_
    refine e_iconst dL_law_122 (by unfold InR; decide) ?_
    refine e_iload 3 dL_law_123 rfl ?_
    refine e_imul dL_law_125 ?_
    refine e_iadd dL_law_126 ?_
    refine i_SI (μ' := ML_cell) (as := [vS, vI (w32 (3 + (w32 (2 * x4))))]) (st := [vI x4, vR x1]) rfl dL_law_127 mOKL_cell ⟨mlL_75, stL_cell⟩ (by decide) (Nat.le_of_ble_eq_true rfl) rfl (Nat.le_of_ble_eq_true rfl) (CI.mono h ?_)
    clear h
    intro S127 I127 R127 x127_ h
    refine e_aload_n 0 dL_law_130 rfl ?_
    refine e_iconst dL_law_131 (by unfold InR; decide) ?_
    refine e_iconst dL_law_132 (by unfold InR; decide) ?_
    refine e_iload 3 dL_law_133 rfl ?_
    refine e_imul dL_law_135 ?_
    refine e_iadd dL_law_136 ?_
    refine i_SI (μ' := ML_cell) (as := [vS, vI (w32 (4 + (w32 (2 * x4))))]) (st := [vI x127_, vI x4, vR x1]) rfl dL_law_137 mOKL_cell ⟨mlL_75, stL_cell⟩ (by decide) (Nat.le_of_ble_eq_true rfl) rfl (Nat.le_of_ble_eq_true rfl) (CI.mono h ?_)
    clear h
    intro S137 I137 R137 x137_ h
    refine e_iload_n 2 dL_law_140 rfl ?_
    refine e_aload_n 0 dL_law_141 rfl ?_
    refine e_iconst dL_law_142 (by unfold InR; decide) ?_
    refine e_iconst dL_law_143 (by unfold InR; decide) ?_
    refine e_iload 3 dL_law_144 rfl ?_
    refine e_imul dL_law_146 ?_
    refine e_iadd dL_law_147 ?_
    refine i_SI (μ' := ML_cell) (as := [vS, vI (w32 (3 + (w32 (2 * x4))))]) (st := [vI x2, vI x137_, vI x127_, vI x4, vR x1]) rfl dL_law_148 mOKL_cell ⟨mlL_75, stL_cell⟩ (by decide) (Nat.le_of_ble_eq_true rfl) rfl (Nat.le_of_ble_eq_true rfl) (CI.mono h ?_)
    clear h
    intro S148 I148 R148 x148_ h
    refine e_bipush (x := 20) dL_law_151 ⟨by decide +kernel, by unfold InR; decide⟩ ?_
    refine e_ishr dL_law_153 ?_
    refine e_iconst dL_law_154 (by unfold InR; decide) ?_
    refine e_iconst dL_law_155 (by unfold InR; decide) ?_
    have o11 := h.1
    replace h := h.2
    refine i_SI (μ' := ML_between) (as := [vI (ishr x148_ 20), vI 1, vI 4]) (st := [vI x2, vI x137_, vI x127_, vI x4, vR x1]) rfl dL_law_156 mOKL_between ⟨mlL_50, stL_between⟩ (by decide) (Nat.le_of_ble_eq_true rfl) rfl (Nat.le_of_ble_eq_true rfl) (sL_between o11 ?_)
    refine e_iload 3 dL_law_159 rfl ?_
    refine e_if_ne (tgt := 168) dL_law_161 (by decide) (fun c => ?_) (fun c => ?_)
    · replace h := h.1 c
      refine e_aload_n 0 dL_law_168 rfl ?_
      refine e_iconst dL_law_169 (by unfold InR; decide) ?_
      refine e_iconst dL_law_170 (by unfold InR; decide) ?_
      refine e_iload 3 dL_law_171 rfl ?_
      refine e_imul dL_law_173 ?_
      refine e_iadd dL_law_174 ?_
      refine i_SI (μ' := ML_cell) (as := [vS, vI (w32 (4 + (w32 (2 * x4))))]) (st := [vI (vL_between (ishr x148_ 20) 1 4), vI x2, vI x137_, vI x127_, vI x4, vR x1]) rfl dL_law_175 mOKL_cell ⟨mlL_75, stL_cell⟩ (by decide) (Nat.le_of_ble_eq_true rfl) rfl (Nat.le_of_ble_eq_true rfl) (CI.mono h ?_)
      clear h
      intro S175 I175 R175 x175_ h
      refine e_bipush (x := 20) dL_law_178 ⟨by decide +kernel, by unfold InR; decide⟩ ?_
      refine e_ishr dL_law_180 ?_
      refine e_iconst dL_law_181 (by unfold InR; decide) ?_
      refine e_iconst dL_law_182 (by unfold InR; decide) ?_
      have o12 := h.1
      replace h := h.2
      refine i_SI (μ' := ML_between) (as := [vI (ishr x175_ 20), vI 0, vI 3]) (st := [vI (vL_between (ishr x148_ 20) 1 4), vI x2, vI x137_, vI x127_, vI x4, vR x1]) rfl dL_law_183 mOKL_between ⟨mlL_50, stL_between⟩ (by decide) (Nat.le_of_ble_eq_true rfl) rfl (Nat.le_of_ble_eq_true rfl) (sL_between o12 ?_)
      refine i_SR (μ' := ML_drawn) (as := [vI x127_, vI x137_, vI x2, vI (vL_between (ishr x148_ 20) 1 4), vI (vL_between (ishr x175_ 20) 0 3)]) (st := [vI x4, vR x1]) rfl dL_law_186 mOKL_drawn ⟨mlL_94, stL_drawn⟩ (by decide) (Nat.le_of_ble_eq_true rfl) rfl (Nat.le_of_ble_eq_true rfl) (CR.mono h ?_)
      clear h
      intro S186 I186 R186 x186_ h
      refine i_SI (μ' := ML_poly) (as := [vR x1, vI x4, vR x186_]) (st := []) rfl dL_law_189 mOKL_poly ⟨mlL_98, stL_poly⟩ (by decide) (Nat.le_of_ble_eq_true rfl) rfl (Nat.le_of_ble_eq_true rfl) (CI.mono h ?_)
      clear h
      intro S189 I189 R189 x189_ h
      refine e_if_ge (tgt := 197) dL_law_192 (by decide) (fun c => ?_) (fun c => ?_)
      · replace h := h.1 c
        refine e_iinc (ls2 := [(4, vI (w32 (x4 + 1))), (0, vS), (1, vR x1), (2, vI x2)]) 3 dL_law_197 rfl (by decide) rfl ?_
        refine e_goto (tgt := 111) dL_law_200 (by decide) ?_
        exact e_sub (ls2 := [(0, vS), (1, vR x1), (2, vI x2), (4, vI (w32 (x4 + 1)))]) [1, 2, 3, 0] rfl h
      · replace h := h.2 c
        refine e_iconst dL_law_195 (by unfold InR; decide) ?_
        exact e_zreturn dL_law_196 rfl (by decide) h
    · replace h := h.2 c
      refine e_iconst dL_law_164 (by unfold InR; decide) ?_
      refine e_goto (tgt := 186) dL_law_165 (by decide) ?_
      refine i_SR (μ' := ML_drawn) (as := [vI x127_, vI x137_, vI x2, vI (vL_between (ishr x148_ 20) 1 4), vI 1]) (st := [vI x4, vR x1]) rfl dL_law_186 mOKL_drawn ⟨mlL_94, stL_drawn⟩ (by decide) (Nat.le_of_ble_eq_true rfl) rfl (Nat.le_of_ble_eq_true rfl) (CR.mono h ?_)
      clear h
      intro S186 I186 R186 x186_ h
      refine i_SI (μ' := ML_poly) (as := [vR x1, vI x4, vR x186_]) (st := []) rfl dL_law_189 mOKL_poly ⟨mlL_98, stL_poly⟩ (by decide) (Nat.le_of_ble_eq_true rfl) rfl (Nat.le_of_ble_eq_true rfl) (CI.mono h ?_)
      clear h
      intro S189 I189 R189 x189_ h
      refine e_if_ge (tgt := 197) dL_law_192 (by decide) (fun c => ?_) (fun c => ?_)
      · replace h := h.1 c
        refine e_iinc (ls2 := [(4, vI (w32 (x4 + 1))), (0, vS), (1, vR x1), (2, vI x2)]) 3 dL_law_197 rfl (by decide) rfl ?_
        refine e_goto (tgt := 111) dL_law_200 (by decide) ?_
        exact e_sub (ls2 := [(0, vS), (1, vR x1), (2, vI x2), (4, vI (w32 (x4 + 1)))]) [1, 2, 3, 0] rfl h
      · replace h := h.2 c
        refine e_iconst dL_law_195 (by unfold InR; decide) ?_
        exact e_zreturn dL_law_196 rfl (by decide) h
set_option maxRecDepth 100000 in
set_option maxHeartbeats 4000000 in
theorem bL_law_206 {G : Gl} {S : Sh} {I : MI} {R : MR} {Q : PQ} {x1 : Nat} {x4 : Int} (h : ((5 ≤ x4 → (sT S x1 = 9 ∧ (CI G MX9_weak [vR x1, vI 8, vI 1] S I R (fun S422 I422 R422 x422_ => ((x422_ ≠ (-1) → Q S422 I422 R422 (vI 0)) ∧ (¬ (x422_ ≠ (-1)) → (sT S422 x1 = 9 ∧ (CI G MX9_weak [vR x1, vI 0, vI 256] S422 I422 R422 (fun S434 I434 R434 x434_ => ((x434_ ≠ (-1) → Q S434 I434 R434 (vI 0)) ∧ (¬ (x434_ ≠ (-1)) → (sT S434 x1 = 9 ∧ (CI G MX9_look [vR x1, vI 8] S434 I434 R434 (fun S444 I444 R444 x444_ => ((x444_ < 0 → Q S444 I444 R444 (vI 0)) ∧ (¬ (x444_ < 0) → Q S444 I444 R444 (vI 1))))))))))))))))) ∧ (¬ (5 ≤ x4) → (CI G ML_cell [vS, vI (w32 (11 + x4))] S I R (fun S218 I218 R218 x218_ => ((pL_between x218_ 0 7) ∧ (sT S218 x1 = 9 ∧ (CI G MX9_weak [vR x1, vI 0, vI (ishl (vL_between x218_ 0 7) 1)] S218 I218 R218 (fun S235 I235 R235 x235_ => ((x235_ ≠ (-2) → ((x235_ < 0 → Q S235 I235 R235 (vI 0)) ∧ (¬ (x235_ < 0) → ((40 < x235_ → Q S235 I235 R235 (vI 0)) ∧ (¬ (40 < x235_) → (sT S235 x1 = 9 ∧ (CI G MX9_look [vR x1, vI 8] S235 I235 R235 (fun S283 I283 R283 x283_ => ((x283_ ≠ 1 → Q S283 I283 R283 (vI 0)) ∧ (¬ (x283_ ≠ 1) → (sT S283 x1 = 9 ∧ (CI G MX9_step [vR x1, vI (-1), vI 0] S283 I283 R283 (fun S293 I293 R293 x293_ => ((x293_ ≠ x235_ → Q S293 I293 R293 (vI 0)) ∧ (¬ (x293_ ≠ x235_) → (sT S293 x1 = 9 ∧ (CI G MX9_step [vR x1, vI (-1), vI 2] S293 I293 R293 (fun S304 I304 R304 x304_ => ((x304_ ≠ 1 → Q S304 I304 R304 (vI 0)) ∧ (¬ (x304_ ≠ 1) → (CI G ML_isStepped [vR x1, vI x235_] S304 I304 R304 (fun S314 I314 R314 x314_ => ((x314_ ≠ 0 → (sT S314 x1 = 9 ∧ (CI G MX9_kept [vR x1, vI 1, vI 5] S314 I314 R314 (fun S325 I325 R325 x325_ => ((x325_ < 1 → Q S325 I325 R325 (vI 0)) ∧ (¬ (x325_ < 1) → (sT S325 x1 = 9 ∧ (CI G MX9_shape [vR x1, vI 5, vI 4] S325 I325 R325 (fun S335 I335 R335 x335_ => ((x335_ ≠ 1 → Q S335 I335 R335 (vI 0)) ∧ (¬ (x335_ ≠ 1) → (sT S335 x1 = 9 ∧ (CI G MX9_term [vR x1, vI 5, vI 0, vI 0] S335 I335 R335 (fun S346 I346 R346 x346_ => ((x346_ = 1 → (CI G ML_isWhole [vR x1, vI (ishl (vL_between x218_ 0 7) 1)] S346 I346 R346 (fun S358 I358 R358 x358_ => ((x358_ = 0 → Q S358 I358 R358 (vI 0)) ∧ (¬ (x358_ = 0) → (CI G ML_isLeft [vR x1, vI (ishl (vL_between x218_ 0 7) 1)] S358 I358 R358 (fun S367 I367 R367 x367_ => ((x367_ ≠ 0 → (sT S367 x1 = 9 ∧ (CI G MX9_look [vR x1, vI 5] S367 I367 R367 (fun S377 I377 R377 x377_ => (CI G ML_cell [vS, vI (w32 (16 + x4))] S377 I377 R377 (fun S388 I388 R388 x388_ => ((pL_between x388_ 1 x377_) ∧ (CI G ML_isRest [vR x1, vI (ishl (vL_between x218_ 0 7) 1), vI (vL_between x388_ 1 x377_)] S388 I388 R388 (fun S404 I404 R404 x404_ => ((x404_ ≠ 0 → LL_law_206 G x1 (w32 (x4 + 1)) S404 I404 R404 Q) ∧ (¬ (x404_ ≠ 0) → Q S404 I404 R404 (vI 0)))))))))))) ∧ (¬ (x367_ ≠ 0) → Q S367 I367 R367 (vI 0)))))))))) ∧ (¬ (x346_ = 1) → Q S346 I346 R346 (vI 0))))))))))))))))) ∧ (¬ (x314_ ≠ 0) → Q S314 I314 R314 (vI 0))))))))))))))))))))))))) ∧ (¬ (x235_ ≠ (-2)) → (sT S235 x1 = 9 ∧ (CI G MX9_look [vR x1, vI 8] S235 I235 R235 (fun S250 I250 R250 x250_ => ((x250_ ≠ 0 → Q S250 I250 R250 (vI 0)) ∧ (¬ (x250_ ≠ 0) → (sT S250 x1 = 9 ∧ (CI G MX9_step [vR x1, vI (-1), vI 0] S250 I250 R250 (fun S259 I259 R259 x259_ => ((x259_ = (-1) → LL_law_206 G x1 (w32 (x4 + 1)) S259 I259 R259 Q) ∧ (¬ (x259_ = (-1)) → Q S259 I259 R259 (vI 0)))))))))))))))))))))) : LL_law_206 G x1 x4 S I R Q := by
  show E G M_law 206 [(0, vS), (1, vR x1), (4, vI x4)] [] S I R Q
  refine e_iload 2 dL_law_206 rfl ?_
  refine e_iconst dL_law_208 (by unfold InR; decide) ?_
  refine e_icmp_ge (tgt := 418) dL_law_209 (by decide) (fun c => ?_) (fun c => ?_)
  · replace h := h.1 c
    refine e_aload_n 1 dL_law_418 rfl ?_
    refine e_bipush (x := 8) dL_law_419 ⟨by decide +kernel, by unfold InR; decide⟩ ?_
    refine e_iconst dL_law_421 (by unfold InR; decide) ?_
    have o13 := h.1
    replace h := h.2
    refine i_VI (μ' := MX9_weak) (ci := 8) (r := x1) (as := [vI 8, vI 1]) (st := []) rfl dL_law_422 mOKX9_weak ⟨mlL_101, imX9_weak, seX9_weak⟩ (by decide) (Nat.le_of_ble_eq_true rfl) rfl (Nat.le_of_ble_eq_true rfl) ⟨by decide, rfl⟩ o13 (CI.mono h ?_)
    clear h
    intro S422 I422 R422 x422_ h
    refine e_iconst dL_law_425 (by unfold InR; decide) ?_
    refine e_icmp_ne (tgt := 454) dL_law_426 (by decide) (fun c => ?_) (fun c => ?_)
    · replace h := h.1 c
      refine e_iconst dL_law_454 (by unfold InR; decide) ?_
      exact e_zreturn dL_law_455 rfl (by decide) h
    · replace h := h.2 c
      refine e_aload_n 1 dL_law_429 rfl ?_
      refine e_iconst dL_law_430 (by unfold InR; decide) ?_
      refine e_sipush (x := 256) dL_law_431 ⟨by decide +kernel, by unfold InR; decide⟩ ?_
      have o14 := h.1
      replace h := h.2
      refine i_VI (μ' := MX9_weak) (ci := 8) (r := x1) (as := [vI 0, vI 256]) (st := []) rfl dL_law_434 mOKX9_weak ⟨mlL_101, imX9_weak, seX9_weak⟩ (by decide) (Nat.le_of_ble_eq_true rfl) rfl (Nat.le_of_ble_eq_true rfl) ⟨by decide, rfl⟩ o14 (CI.mono h ?_)
      clear h
      intro S434 I434 R434 x434_ h
      refine e_iconst dL_law_437 (by unfold InR; decide) ?_
      refine e_icmp_ne (tgt := 454) dL_law_438 (by decide) (fun c => ?_) (fun c => ?_)
      · replace h := h.1 c
        refine e_iconst dL_law_454 (by unfold InR; decide) ?_
        exact e_zreturn dL_law_455 rfl (by decide) h
      · replace h := h.2 c
        refine e_aload_n 1 dL_law_441 rfl ?_
        refine e_bipush (x := 8) dL_law_442 ⟨by decide +kernel, by unfold InR; decide⟩ ?_
        have o15 := h.1
        replace h := h.2
        refine i_VI (μ' := MX9_look) (ci := 8) (r := x1) (as := [vI 8]) (st := []) rfl dL_law_444 mOKX9_look ⟨mlL_104, imX9_look, seX9_look⟩ (by decide) (Nat.le_of_ble_eq_true rfl) rfl (Nat.le_of_ble_eq_true rfl) ⟨by decide, rfl⟩ o15 (CI.mono h ?_)
        clear h
        intro S444 I444 R444 x444_ h
        refine e_if_lt (tgt := 454) dL_law_447 (by decide) (fun c => ?_) (fun c => ?_)
        · replace h := h.1 c
          refine e_iconst dL_law_454 (by unfold InR; decide) ?_
          exact e_zreturn dL_law_455 rfl (by decide) h
        · replace h := h.2 c
          refine e_iconst dL_law_450 (by unfold InR; decide) ?_
          refine e_goto (tgt := 455) dL_law_451 (by decide) ?_
          exact e_zreturn dL_law_455 rfl (by decide) h
  · replace h := h.2 c
    refine e_aload_n 0 dL_law_212 rfl ?_
    refine e_bipush (x := 11) dL_law_213 ⟨by decide +kernel, by unfold InR; decide⟩ ?_
    refine e_iload 2 dL_law_215 rfl ?_
    refine e_iadd dL_law_217 ?_
    refine i_SI (μ' := ML_cell) (as := [vS, vI (w32 (11 + x4))]) (st := []) rfl dL_law_218 mOKL_cell ⟨mlL_75, stL_cell⟩ (by decide) (Nat.le_of_ble_eq_true rfl) rfl (Nat.le_of_ble_eq_true rfl) (CI.mono h ?_)
    clear h
    intro S218 I218 R218 x218_ h
    refine e_iconst dL_law_221 (by unfold InR; decide) ?_
    refine e_bipush (x := 7) dL_law_222 ⟨by decide +kernel, by unfold InR; decide⟩ ?_
    have o16 := h.1
    replace h := h.2
    refine i_SI (μ' := ML_between) (as := [vI x218_, vI 0, vI 7]) (st := []) rfl dL_law_224 mOKL_between ⟨mlL_50, stL_between⟩ (by decide) (Nat.le_of_ble_eq_true rfl) rfl (Nat.le_of_ble_eq_true rfl) (sL_between o16 ?_)
    refine e_iconst dL_law_227 (by unfold InR; decide) ?_
    refine e_ishl dL_law_228 ?_
    refine e_istore (ls2 := [(5, vI (ishl (vL_between x218_ 0 7) 1)), (0, vS), (1, vR x1), (4, vI x4)]) dL_law_229 (by decide) rfl ?_
    refine e_aload_n 2 dL_law_231 rfl ?_
    refine e_iconst dL_law_232 (by unfold InR; decide) ?_
    refine e_iload 0 dL_law_233 rfl ?_
    have o17 := h.1
    replace h := h.2
    refine i_VI (μ' := MX9_weak) (ci := 8) (r := x1) (as := [vI 0, vI (ishl (vL_between x218_ 0 7) 1)]) (st := []) rfl dL_law_235 mOKX9_weak ⟨mlL_101, imX9_weak, seX9_weak⟩ (by decide) (Nat.le_of_ble_eq_true rfl) rfl (Nat.le_of_ble_eq_true rfl) ⟨by decide, rfl⟩ o17 (CI.mono h ?_)
    clear h
    intro S235 I235 R235 x235_ h
    refine e_istore (ls2 := [(6, vI x235_), (5, vI (ishl (vL_between x218_ 0 7) 1)), (0, vS), (1, vR x1), (4, vI x4)]) dL_law_238 (by decide) rfl ?_
    refine e_iload 0 dL_law_240 rfl ?_
    refine e_bipush (x := (-2)) dL_law_242 ⟨by decide +kernel, by unfold InR; decide⟩ ?_
    refine e_icmp_ne (tgt := 268) dL_law_244 (by decide) (fun c => ?_) (fun c => ?_)
    · replace h := h.1 c
      refine e_iload 0 dL_law_268 rfl ?_
      refine e_if_lt (tgt := 320) dL_law_270 (by decide) (fun c => ?_) (fun c => ?_)
      · replace h := h.1 c
        refine e_iconst dL_law_320 (by unfold InR; decide) ?_
        exact e_zreturn dL_law_321 rfl (by decide) h
      · replace h := h.2 c
        refine e_iload 0 dL_law_273 rfl ?_
        refine e_bipush (x := 40) dL_law_275 ⟨by decide +kernel, by unfold InR; decide⟩ ?_
        refine e_icmp_gt (tgt := 320) dL_law_277 (by decide) (fun c => ?_) (fun c => ?_)
        · replace h := h.1 c
          refine e_iconst dL_law_320 (by unfold InR; decide) ?_
          exact e_zreturn dL_law_321 rfl (by decide) h
        · replace h := h.2 c
          refine e_aload_n 3 dL_law_280 rfl ?_
          refine e_bipush (x := 8) dL_law_281 ⟨by decide +kernel, by unfold InR; decide⟩ ?_
          have o18 := h.1
          replace h := h.2
          refine i_VI (μ' := MX9_look) (ci := 8) (r := x1) (as := [vI 8]) (st := []) rfl dL_law_283 mOKX9_look ⟨mlL_104, imX9_look, seX9_look⟩ (by decide) (Nat.le_of_ble_eq_true rfl) rfl (Nat.le_of_ble_eq_true rfl) ⟨by decide, rfl⟩ o18 (CI.mono h ?_)
          clear h
          intro S283 I283 R283 x283_ h
          refine e_iconst dL_law_286 (by unfold InR; decide) ?_
          refine e_icmp_ne (tgt := 320) dL_law_287 (by decide) (fun c => ?_) (fun c => ?_)
          · replace h := h.1 c
            refine e_iconst dL_law_320 (by unfold InR; decide) ?_
            exact e_zreturn dL_law_321 rfl (by decide) h
          · replace h := h.2 c
            refine e_aload_n 3 dL_law_290 rfl ?_
            refine e_iconst dL_law_291 (by unfold InR; decide) ?_
            refine e_iconst dL_law_292 (by unfold InR; decide) ?_
            have o19 := h.1
            replace h := h.2
            refine i_VI (μ' := MX9_step) (ci := 8) (r := x1) (as := [vI (-1), vI 0]) (st := []) rfl dL_law_293 mOKX9_step ⟨mlL_83, imX9_step, seX9_step⟩ (by decide) (Nat.le_of_ble_eq_true rfl) rfl (Nat.le_of_ble_eq_true rfl) ⟨by decide, rfl⟩ o19 (CI.mono h ?_)
            clear h
            intro S293 I293 R293 x293_ h
            refine e_iload 0 dL_law_296 rfl ?_
            refine e_icmp_ne (tgt := 320) dL_law_298 (by decide) (fun c => ?_) (fun c => ?_)
            · replace h := h.1 c
              refine e_iconst dL_law_320 (by unfold InR; decide) ?_
              exact e_zreturn dL_law_321 rfl (by decide) h
            · replace h := h.2 c
              refine e_aload_n 3 dL_law_301 rfl ?_
              refine e_iconst dL_law_302 (by unfold InR; decide) ?_
              refine e_iconst dL_law_303 (by unfold InR; decide) ?_
              have o20 := h.1
              replace h := h.2
              refine i_VI (μ' := MX9_step) (ci := 8) (r := x1) (as := [vI (-1), vI 2]) (st := []) rfl dL_law_304 mOKX9_step ⟨mlL_83, imX9_step, seX9_step⟩ (by decide) (Nat.le_of_ble_eq_true rfl) rfl (Nat.le_of_ble_eq_true rfl) ⟨by decide, rfl⟩ o20 (CI.mono h ?_)
              clear h
              intro S304 I304 R304 x304_ h
              refine e_iconst dL_law_307 (by unfold InR; decide) ?_
              refine e_icmp_ne (tgt := 320) dL_law_308 (by decide) (fun c => ?_) (fun c => ?_)
              · replace h := h.1 c
                refine e_iconst dL_law_320 (by unfold InR; decide) ?_
                exact e_zreturn dL_law_321 rfl (by decide) h
              · replace h := h.2 c
                refine e_aload_n 3 dL_law_311 rfl ?_
                refine e_iload 0 dL_law_312 rfl ?_
                refine i_SI (μ' := ML_isStepped) (as := [vR x1, vI x235_]) (st := []) rfl dL_law_314 mOKL_isStepped ⟨mlL_107, stL_isStepped⟩ (by decide) (Nat.le_of_ble_eq_true rfl) rfl (Nat.le_of_ble_eq_true rfl) (CI.mono h ?_)
                clear h
                intro S314 I314 R314 x314_ h
                refine e_if_ne (tgt := 322) dL_law_317 (by decide) (fun c => ?_) (fun c => ?_)
                · replace h := h.1 c
                  refine e_aload_n 3 dL_law_322 rfl ?_
                  refine e_iconst dL_law_323 (by unfold InR; decide) ?_
                  refine e_iconst dL_law_324 (by unfold InR; decide) ?_
                  have o21 := h.1
                  replace h := h.2
                  refine i_VI (μ' := MX9_kept) (ci := 8) (r := x1) (as := [vI 1, vI 5]) (st := []) rfl dL_law_325 mOKX9_kept ⟨mlL_87, imX9_kept, seX9_kept⟩ (by decide) (Nat.le_of_ble_eq_true rfl) rfl (Nat.le_of_ble_eq_true rfl) ⟨by decide, rfl⟩ o21 (CI.mono h ?_)
                  clear h
                  intro S325 I325 R325 x325_ h
                  refine e_iconst dL_law_328 (by unfold InR; decide) ?_
                  refine e_icmp_lt (tgt := 353) dL_law_329 (by decide) (fun c => ?_) (fun c => ?_)
                  · replace h := h.1 c
                    refine e_iconst dL_law_353 (by unfold InR; decide) ?_
                    exact e_zreturn dL_law_354 rfl (by decide) h
                  · replace h := h.2 c
                    refine e_aload_n 3 dL_law_332 rfl ?_
                    refine e_iconst dL_law_333 (by unfold InR; decide) ?_
                    refine e_iconst dL_law_334 (by unfold InR; decide) ?_
                    have o22 := h.1
                    replace h := h.2
                    refine i_VI (μ' := MX9_shape) (ci := 8) (r := x1) (as := [vI 5, vI 4]) (st := []) rfl dL_law_335 mOKX9_shape ⟨mlL_111, imX9_shape, seX9_shape⟩ (by decide) (Nat.le_of_ble_eq_true rfl) rfl (Nat.le_of_ble_eq_true rfl) ⟨by decide, rfl⟩ o22 (CI.mono h ?_)
                    clear h
                    intro S335 I335 R335 x335_ h
                    refine e_iconst dL_law_338 (by unfold InR; decide) ?_
                    refine e_icmp_ne (tgt := 353) dL_law_339 (by decide) (fun c => ?_) (fun c => ?_)
                    · replace h := h.1 c
                      refine e_iconst dL_law_353 (by unfold InR; decide) ?_
                      exact e_zreturn dL_law_354 rfl (by decide) h
                    · replace h := h.2 c
                      refine e_aload_n 3 dL_law_342 rfl ?_
                      refine e_iconst dL_law_343 (by unfold InR; decide) ?_
                      refine e_iconst dL_law_344 (by unfold InR; decide) ?_
                      refine e_iconst dL_law_345 (by unfold InR; decide) ?_
                      have o23 := h.1
                      replace h := h.2
                      refine i_VI (μ' := MX9_term) (ci := 8) (r := x1) (as := [vI 5, vI 0, vI 0]) (st := []) rfl dL_law_346 mOKX9_term ⟨mlL_114, imX9_term, seX9_term⟩ (by decide) (Nat.le_of_ble_eq_true rfl) rfl (Nat.le_of_ble_eq_true rfl) ⟨by decide, rfl⟩ o23 (CI.mono h ?_)
                      clear h
                      intro S346 I346 R346 x346_ h
                      refine e_iconst dL_law_349 (by unfold InR; decide) ?_
                      refine e_icmp_eq (tgt := 355) dL_law_350 (by decide) (fun c => ?_) (fun c => ?_)
                      · replace h := h.1 c
                        refine e_aload_n 3 dL_law_355 rfl ?_
                        refine e_iload 1 dL_law_356 rfl ?_
                        refine i_SI (μ' := ML_isWhole) (as := [vR x1, vI (ishl (vL_between x218_ 0 7) 1)]) (st := []) rfl dL_law_358 mOKL_isWhole ⟨mlL_117, stL_isWhole⟩ (by decide) (Nat.le_of_ble_eq_true rfl) rfl (Nat.le_of_ble_eq_true rfl) (CI.mono h ?_)
                        clear h
                        intro S358 I358 R358 x358_ h
                        refine e_if_eq (tgt := 373) dL_law_361 (by decide) (fun c => ?_) (fun c => ?_)
                        · replace h := h.1 c
                          refine e_iconst dL_law_373 (by unfold InR; decide) ?_
                          exact e_zreturn dL_law_374 rfl (by decide) h
                        · replace h := h.2 c
                          refine e_aload_n 3 dL_law_364 rfl ?_
                          refine e_iload 1 dL_law_365 rfl ?_
                          refine i_SI (μ' := ML_isLeft) (as := [vR x1, vI (ishl (vL_between x218_ 0 7) 1)]) (st := []) rfl dL_law_367 mOKL_isLeft ⟨mlL_120, stL_isLeft⟩ (by decide) (Nat.le_of_ble_eq_true rfl) rfl (Nat.le_of_ble_eq_true rfl) (CI.mono h ?_)
                          clear h
                          intro S367 I367 R367 x367_ h
                          refine e_if_ne (tgt := 375) dL_law_370 (by decide) (fun c => ?_) (fun c => ?_)
                          · replace h := h.1 c
                            refine e_aload_n 3 dL_law_375 rfl ?_
                            refine e_iconst dL_law_376 (by unfold InR; decide) ?_
                            have o24 := h.1
                            replace h := h.2
                            refine i_VI (μ' := MX9_look) (ci := 8) (r := x1) (as := [vI 5]) (st := []) rfl dL_law_377 mOKX9_look ⟨mlL_104, imX9_look, seX9_look⟩ (by decide) (Nat.le_of_ble_eq_true rfl) rfl (Nat.le_of_ble_eq_true rfl) ⟨by decide, rfl⟩ o24 (CI.mono h ?_)
                            clear h
                            intro S377 I377 R377 x377_ h
                            refine e_istore (ls2 := [(7, vI x377_), (6, vI x235_), (5, vI (ishl (vL_between x218_ 0 7) 1)), (0, vS), (1, vR x1), (4, vI x4)]) dL_law_380 (by decide) rfl ?_
                            refine e_aload_n 3 dL_law_382 rfl ?_
                            refine e_bipush (x := 16) dL_law_383 ⟨by decide +kernel, by unfold InR; decide⟩ ?_
                            refine e_iload 5 dL_law_385 rfl ?_
                            refine e_iadd dL_law_387 ?_
                            refine i_SI (μ' := ML_cell) (as := [vS, vI (w32 (16 + x4))]) (st := []) rfl dL_law_388 mOKL_cell ⟨mlL_75, stL_cell⟩ (by decide) (Nat.le_of_ble_eq_true rfl) rfl (Nat.le_of_ble_eq_true rfl) (CI.mono h ?_)
                            clear h
                            intro S388 I388 R388 x388_ h
                            refine e_iconst dL_law_391 (by unfold InR; decide) ?_
                            refine e_iload 0 dL_law_392 rfl ?_
                            have o25 := h.1
                            replace h := h.2
                            refine i_SI (μ' := ML_between) (as := [vI x388_, vI 1, vI x377_]) (st := []) rfl dL_law_394 mOKL_between ⟨mlL_50, stL_between⟩ (by decide) (Nat.le_of_ble_eq_true rfl) rfl (Nat.le_of_ble_eq_true rfl) (sL_between o25 ?_)
                            refine e_istore (ls2 := [(8, vI (vL_between x388_ 1 x377_)), (7, vI x377_), (6, vI x235_), (5, vI (ishl (vL_between x218_ 0 7) 1)), (0, vS), (1, vR x1), (4, vI x4)]) dL_law_397 (by decide) rfl ?_
                            refine e_aload_n 5 dL_law_399 rfl ?_
                            refine e_iload 3 dL_law_400 rfl ?_
                            refine e_iload 0 dL_law_402 rfl ?_
                            refine i_SI (μ' := ML_isRest) (as := [vR x1, vI (ishl (vL_between x218_ 0 7) 1), vI (vL_between x388_ 1 x377_)]) (st := []) rfl dL_law_404 mOKL_isRest ⟨mlL_123, stL_isRest⟩ (by decide) (Nat.le_of_ble_eq_true rfl) rfl (Nat.le_of_ble_eq_true rfl) (CI.mono h ?_)
                            clear h
                            intro S404 I404 R404 x404_ h
                            refine e_if_ne (tgt := 412) dL_law_407 (by decide) (fun c => ?_) (fun c => ?_)
                            · replace h := h.1 c
                              refine e_iinc (ls2 := [(4, vI (w32 (x4 + 1))), (8, vI (vL_between x388_ 1 x377_)), (7, vI x377_), (6, vI x235_), (5, vI (ishl (vL_between x218_ 0 7) 1)), (0, vS), (1, vR x1)]) 6 dL_law_412 rfl (by decide) rfl ?_
                              refine e_goto (tgt := 206) dL_law_415 (by decide) ?_
                              exact e_sub (ls2 := [(0, vS), (1, vR x1), (4, vI (w32 (x4 + 1)))]) [5, 6, 0] rfl h
                            · replace h := h.2 c
                              refine e_iconst dL_law_410 (by unfold InR; decide) ?_
                              exact e_zreturn dL_law_411 rfl (by decide) h
                          · replace h := h.2 c
                            refine e_iconst dL_law_373 (by unfold InR; decide) ?_
                            exact e_zreturn dL_law_374 rfl (by decide) h
                      · replace h := h.2 c
                        refine e_iconst dL_law_353 (by unfold InR; decide) ?_
                        exact e_zreturn dL_law_354 rfl (by decide) h
                · replace h := h.2 c
                  refine e_iconst dL_law_320 (by unfold InR; decide) ?_
                  exact e_zreturn dL_law_321 rfl (by decide) h
    · replace h := h.2 c
      refine e_aload_n 3 dL_law_247 rfl ?_
      refine e_bipush (x := 8) dL_law_248 ⟨by decide +kernel, by unfold InR; decide⟩ ?_
      have o26 := h.1
      replace h := h.2
      refine i_VI (μ' := MX9_look) (ci := 8) (r := x1) (as := [vI 8]) (st := []) rfl dL_law_250 mOKX9_look ⟨mlL_104, imX9_look, seX9_look⟩ (by decide) (Nat.le_of_ble_eq_true rfl) rfl (Nat.le_of_ble_eq_true rfl) ⟨by decide, rfl⟩ o26 (CI.mono h ?_)
      clear h
      intro S250 I250 R250 x250_ h
      refine e_if_ne (tgt := 266) dL_law_253 (by decide) (fun c => ?_) (fun c => ?_)
      · replace h := h.1 c
        refine e_iconst dL_law_266 (by unfold InR; decide) ?_
        exact e_zreturn dL_law_267 rfl (by decide) h
      · replace h := h.2 c
        refine e_aload_n 3 dL_law_256 rfl ?_
        refine e_iconst dL_law_257 (by unfold InR; decide) ?_
        refine e_iconst dL_law_258 (by unfold InR; decide) ?_
        have o27 := h.1
        replace h := h.2
        refine i_VI (μ' := MX9_step) (ci := 8) (r := x1) (as := [vI (-1), vI 0]) (st := []) rfl dL_law_259 mOKX9_step ⟨mlL_83, imX9_step, seX9_step⟩ (by decide) (Nat.le_of_ble_eq_true rfl) rfl (Nat.le_of_ble_eq_true rfl) ⟨by decide, rfl⟩ o27 (CI.mono h ?_)
        clear h
        intro S259 I259 R259 x259_ h
        refine e_iconst dL_law_262 (by unfold InR; decide) ?_
        refine e_icmp_eq (tgt := 412) dL_law_263 (by decide) (fun c => ?_) (fun c => ?_)
        · replace h := h.1 c
          refine e_iinc (ls2 := [(4, vI (w32 (x4 + 1))), (6, vI x235_), (5, vI (ishl (vL_between x218_ 0 7) 1)), (0, vS), (1, vR x1)]) 4 dL_law_412 rfl (by decide) rfl ?_
          refine e_goto (tgt := 206) dL_law_415 (by decide) ?_
          exact e_sub (ls2 := [(0, vS), (1, vR x1), (4, vI (w32 (x4 + 1)))]) [3, 4, 0] rfl h
        · replace h := h.2 c
          refine e_iconst dL_law_266 (by unfold InR; decide) ?_
          exact e_zreturn dL_law_267 rfl (by decide) h
