set_option maxRecDepth 100000 in
set_option maxHeartbeats 4000000 in
theorem bX10_init {G : Gl} {S : Sh} {I : MI} {R : MR} {Q : Sh → MI → MR → Prop} {x0 : Nat} (h : (sT S x0 ≠ 0 ∧ (sT S x0 = 10 ∧ (∀ I6, I6 = up2 I x0 1 2 → (∀ I13, I13 = up2 I6 x0 2 32003 → (∀ S18 I18 R18, S18 = shNew S 21 3 3 → I18 = mNew I13 (sN S) 0 → R18 = mNew R (sN S) 0 → (sT S18 (sN S) = 21 ∧ (((0 : Int) ≤ 0 ∧ 0 < (sL S18 (sN S) : Int)) ∧ (∀ I23, I23 = up2 I18 (sN S) (Int.toNat 0) 1 → (((0 : Int) ≤ 1 ∧ 1 < (sL S18 (sN S) : Int)) ∧ (∀ I27, I27 = up2 I23 (sN S) (Int.toNat 1) 1 → (((0 : Int) ≤ 2 ∧ 2 < (sL S18 (sN S) : Int)) ∧ (∀ I31, I31 = up2 I27 (sN S) (Int.toNat 2) 1 → (sT S18 x0 = 10 ∧ (∀ R32, R32 = up2 R18 x0 3 (sN S) → (∀ S39 I39 R39, S39 = shNew S18 21 300 300 → I39 = mNew I31 (sN S18) 0 → R39 = mNew R32 (sN S18) 0 → (sT S39 x0 = 10 ∧ (∀ R41, R41 = up2 R39 x0 4 (sN S18) → (∀ S48 I48 R48, S48 = shNew S39 21 18000 18000 → I48 = mNew I39 (sN S39) 0 → R48 = mNew R41 (sN S39) 0 → (sT S48 x0 = 10 ∧ (∀ R50, R50 = up2 R48 x0 5 (sN S39) → (∀ S56 I56 R56, S56 = shNew S48 21 54000 54000 → I56 = mNew I48 (sN S48) 0 → R56 = mNew R50 (sN S48) 0 → (sT S56 x0 = 10 ∧ (∀ R58, R58 = up2 R56 x0 6 (sN S48) → (∀ S65 I65 R65, S65 = shNew S56 21 4000 4000 → I65 = mNew I56 (sN S56) 0 → R65 = mNew R58 (sN S56) 0 → (sT S65 x0 = 10 ∧ (∀ R67, R67 = up2 R65 x0 7 (sN S56) → (∀ S74 I74 R74, S74 = shNew S65 21 12000 12000 → I74 = mNew I65 (sN S65) 0 → R74 = mNew R67 (sN S65) 0 → (sT S74 x0 = 10 ∧ (∀ R76, R76 = up2 R74 x0 8 (sN S65) → (∀ S83 I83 R83, S83 = shNew S74 22 200 200 → I83 = mNew I74 (sN S74) 0 → R83 = mNew R76 (sN S74) 0 → (sT S83 x0 = 10 ∧ (∀ R85, R85 = up2 R83 x0 10 (sN S74) → (∀ I90, I90 = up2 I83 x0 15 (-1) → (∀ S95 I95 R95, S95 = shNew S83 21 3 3 → I95 = mNew I90 (sN S83) 0 → R95 = mNew R85 (sN S83) 0 → (sT S95 x0 = 10 ∧ (∀ R97, R97 = up2 R95 x0 17 (sN S83) → (∀ S104 I104 R104, S104 = shNew S95 21 2000 2000 → I104 = mNew I95 (sN S95) 0 → R104 = mNew R97 (sN S95) 0 → (sT S104 x0 = 10 ∧ (∀ R106, R106 = up2 R104 x0 18 (sN S95) → (∀ S113 I113 R113, S113 = shNew S104 21 200 200 → I113 = mNew I104 (sN S104) 0 → R113 = mNew R106 (sN S104) 0 → (sT S113 x0 = 10 ∧ (∀ R115, R115 = up2 R113 x0 26 (sN S104) → (∀ S122 I122 R122, S122 = shNew S113 21 3000 3000 → I122 = mNew I113 (sN S113) 0 → R122 = mNew R115 (sN S113) 0 → (sT S122 x0 = 10 ∧ (∀ R124, R124 = up2 R122 x0 27 (sN S113) → (∀ S131 I131 R131, S131 = shNew S122 21 14400 14400 → I131 = mNew I122 (sN S122) 0 → R131 = mNew R124 (sN S122) 0 → (sT S131 x0 = 10 ∧ (∀ R133, R133 = up2 R131 x0 29 (sN S122) → (∀ S139 I139 R139, S139 = shNew S131 23 120 120 → I139 = mNew I131 (sN S131) 0 → R139 = mNew R133 (sN S131) 0 → (sT S139 x0 = 10 ∧ (∀ R141, R141 = up2 R139 x0 30 (sN S131) → (∀ S147 I147 R147, S147 = shNew S139 21 120 120 → I147 = mNew I139 (sN S139) 0 → R147 = mNew R141 (sN S139) 0 → (sT S147 x0 = 10 ∧ (∀ R149, R149 = up2 R147 x0 31 (sN S139) → Q S147 I147 R149))))))))))))))))))))))))))))))))))))))))))))))))))))))) : CV G MX10_init [vR x0] S I R Q := by
  show E G MX10_init 0 [(0, vR x0)] [] S I R (qV Q)
  refine e_aload_n 0 dX10_init_0 rfl ?_
  have o1 := h.1
  replace h := h.2
  refine e_objI dX10_init_1 ⟨moX10_1, oc⟩ (by decide) (Nat.le_of_ble_eq_true rfl) o1 ?_
  refine e_aload_n 0 dX10_init_4 rfl ?_
  refine e_iconst dX10_init_5 (by unfold InR; decide) ?_
  have o2 := h.1
  replace h := h.2
  obtain ⟨I6, eI6⟩ : ∃ z : MI, z = up2 I x0 1 2 := ⟨_, rfl⟩
  replace h := h I6 eI6
  refine e_putI dX10_init_6 flX10_7 rfl (Or.inl rfl) o2 (eqI eI6 ?_)
  refine e_aload_n 0 dX10_init_9 rfl ?_
  refine e_sipush (x := 32003) dX10_init_10 ⟨by decide +kernel, by unfold InR; decide⟩ ?_
  obtain ⟨I13, eI13⟩ : ∃ z : MI, z = up2 I6 x0 2 32003 := ⟨_, rfl⟩
  replace h := h I13 eI13
  refine e_putI dX10_init_13 flX10_13 rfl (Or.inl rfl) o2 (eqI eI13 ?_)
  refine e_aload_n 0 dX10_init_16 rfl ?_
  refine e_iconst dX10_init_17 (by unfold InR; decide) ?_
  obtain ⟨S18, eS18⟩ : ∃ z : Sh, z = shNew S 21 3 3 := ⟨_, rfl⟩
  obtain ⟨I18, eI18⟩ : ∃ z : MI, z = mNew I13 (sN S) 0 := ⟨_, rfl⟩
  obtain ⟨R18, eR18⟩ : ∃ z : MR, z = mNew R (sN S) 0 := ⟨_, rfl⟩
  replace h := h S18 I18 R18 eS18 eI18 eR18
  refine e_newa (t := 21) (n := 3) dX10_init_18 (Or.inl ⟨rfl, rfl⟩) acint rfl (by decide) (eqS eS18 (eqI eI18 (eqR eR18 ?_)))
  refine e_dup dX10_init_20 rfl ?_
  refine e_iconst dX10_init_21 (by unfold InR; decide) ?_
  refine e_iconst dX10_init_22 (by unfold InR; decide) ?_
  have o3 := h.1
  replace h := h.2
  have o4 := h.1
  replace h := h.2
  obtain ⟨I23, eI23⟩ : ∃ z : MI, z = up2 I18 (sN S) (Int.toNat 0) 1 := ⟨_, rfl⟩
  replace h := h I23 eI23
  refine e_iast dX10_init_23 o3 o4 (eqI eI23 ?_)
  refine e_dup dX10_init_24 rfl ?_
  refine e_iconst dX10_init_25 (by unfold InR; decide) ?_
  refine e_iconst dX10_init_26 (by unfold InR; decide) ?_
  have o5 := h.1
  replace h := h.2
  obtain ⟨I27, eI27⟩ : ∃ z : MI, z = up2 I23 (sN S) (Int.toNat 1) 1 := ⟨_, rfl⟩
  replace h := h I27 eI27
  refine e_iast dX10_init_27 o3 o5 (eqI eI27 ?_)
  refine e_dup dX10_init_28 rfl ?_
  refine e_iconst dX10_init_29 (by unfold InR; decide) ?_
  refine e_iconst dX10_init_30 (by unfold InR; decide) ?_
  have o6 := h.1
  replace h := h.2
  obtain ⟨I31, eI31⟩ : ∃ z : MI, z = up2 I27 (sN S) (Int.toNat 2) 1 := ⟨_, rfl⟩
  replace h := h I31 eI31
  refine e_iast dX10_init_31 o3 o6 (eqI eI31 ?_)
  have o7 := h.1
  replace h := h.2
  obtain ⟨R32, eR32⟩ : ∃ z : MR, z = up2 R18 x0 3 (sN S) := ⟨_, rfl⟩
  replace h := h R32 eR32
  refine e_putR dX10_init_32 flX10_16 rfl (Or.inr ⟨rfl, rfl, rfl⟩) o7 (eqR eR32 ?_)
  refine e_aload_n 0 dX10_init_35 rfl ?_
  refine e_sipush (x := 300) dX10_init_36 ⟨by decide +kernel, by unfold InR; decide⟩ ?_
  obtain ⟨S39, eS39⟩ : ∃ z : Sh, z = shNew S18 21 300 300 := ⟨_, rfl⟩
  obtain ⟨I39, eI39⟩ : ∃ z : MI, z = mNew I31 (sN S18) 0 := ⟨_, rfl⟩
  obtain ⟨R39, eR39⟩ : ∃ z : MR, z = mNew R32 (sN S18) 0 := ⟨_, rfl⟩
  replace h := h S39 I39 R39 eS39 eI39 eR39
  refine e_newa (t := 21) (n := 300) dX10_init_39 (Or.inl ⟨rfl, rfl⟩) acint rfl (by decide) (eqS eS39 (eqI eI39 (eqR eR39 ?_)))
  have o8 := h.1
  replace h := h.2
  obtain ⟨R41, eR41⟩ : ∃ z : MR, z = up2 R39 x0 4 (sN S18) := ⟨_, rfl⟩
  replace h := h R41 eR41
  refine e_putR dX10_init_41 flX10_20 rfl (Or.inr ⟨rfl, rfl, rfl⟩) o8 (eqR eR41 ?_)
  refine e_aload_n 0 dX10_init_44 rfl ?_
  refine e_sipush (x := 18000) dX10_init_45 ⟨by decide +kernel, by unfold InR; decide⟩ ?_
  obtain ⟨S48, eS48⟩ : ∃ z : Sh, z = shNew S39 21 18000 18000 := ⟨_, rfl⟩
  obtain ⟨I48, eI48⟩ : ∃ z : MI, z = mNew I39 (sN S39) 0 := ⟨_, rfl⟩
  obtain ⟨R48, eR48⟩ : ∃ z : MR, z = mNew R41 (sN S39) 0 := ⟨_, rfl⟩
  replace h := h S48 I48 R48 eS48 eI48 eR48
  refine e_newa (t := 21) (n := 18000) dX10_init_48 (Or.inl ⟨rfl, rfl⟩) acint rfl (by decide) (eqS eS48 (eqI eI48 (eqR eR48 ?_)))
  have o9 := h.1
  replace h := h.2
  obtain ⟨R50, eR50⟩ : ∃ z : MR, z = up2 R48 x0 5 (sN S39) := ⟨_, rfl⟩
  replace h := h R50 eR50
  refine e_putR dX10_init_50 flX10_23 rfl (Or.inr ⟨rfl, rfl, rfl⟩) o9 (eqR eR50 ?_)
  refine e_aload_n 0 dX10_init_53 rfl ?_
  refine e_ldc (x := 54000) dX10_init_54 cnX10_26 (by unfold InR; decide) ?_
  obtain ⟨S56, eS56⟩ : ∃ z : Sh, z = shNew S48 21 54000 54000 := ⟨_, rfl⟩
  obtain ⟨I56, eI56⟩ : ∃ z : MI, z = mNew I48 (sN S48) 0 := ⟨_, rfl⟩
  obtain ⟨R56, eR56⟩ : ∃ z : MR, z = mNew R50 (sN S48) 0 := ⟨_, rfl⟩
  replace h := h S56 I56 R56 eS56 eI56 eR56
  refine e_newa (t := 21) (n := 54000) dX10_init_56 (Or.inl ⟨rfl, rfl⟩) acint rfl (by decide) (eqS eS56 (eqI eI56 (eqR eR56 ?_)))
  have o10 := h.1
  replace h := h.2
  obtain ⟨R58, eR58⟩ : ∃ z : MR, z = up2 R56 x0 6 (sN S48) := ⟨_, rfl⟩
  replace h := h R58 eR58
  refine e_putR dX10_init_58 flX10_27 rfl (Or.inr ⟨rfl, rfl, rfl⟩) o10 (eqR eR58 ?_)
  refine e_aload_n 0 dX10_init_61 rfl ?_
  refine e_sipush (x := 4000) dX10_init_62 ⟨by decide +kernel, by unfold InR; decide⟩ ?_
  obtain ⟨S65, eS65⟩ : ∃ z : Sh, z = shNew S56 21 4000 4000 := ⟨_, rfl⟩
  obtain ⟨I65, eI65⟩ : ∃ z : MI, z = mNew I56 (sN S56) 0 := ⟨_, rfl⟩
  obtain ⟨R65, eR65⟩ : ∃ z : MR, z = mNew R58 (sN S56) 0 := ⟨_, rfl⟩
  replace h := h S65 I65 R65 eS65 eI65 eR65
  refine e_newa (t := 21) (n := 4000) dX10_init_65 (Or.inl ⟨rfl, rfl⟩) acint rfl (by decide) (eqS eS65 (eqI eI65 (eqR eR65 ?_)))
  have o11 := h.1
  replace h := h.2
  obtain ⟨R67, eR67⟩ : ∃ z : MR, z = up2 R65 x0 7 (sN S56) := ⟨_, rfl⟩
  replace h := h R67 eR67
  refine e_putR dX10_init_67 flX10_30 rfl (Or.inr ⟨rfl, rfl, rfl⟩) o11 (eqR eR67 ?_)
  refine e_aload_n 0 dX10_init_70 rfl ?_
  refine e_sipush (x := 12000) dX10_init_71 ⟨by decide +kernel, by unfold InR; decide⟩ ?_
  obtain ⟨S74, eS74⟩ : ∃ z : Sh, z = shNew S65 21 12000 12000 := ⟨_, rfl⟩
  obtain ⟨I74, eI74⟩ : ∃ z : MI, z = mNew I65 (sN S65) 0 := ⟨_, rfl⟩
  obtain ⟨R74, eR74⟩ : ∃ z : MR, z = mNew R67 (sN S65) 0 := ⟨_, rfl⟩
  replace h := h S74 I74 R74 eS74 eI74 eR74
  refine e_newa (t := 21) (n := 12000) dX10_init_74 (Or.inl ⟨rfl, rfl⟩) acint rfl (by decide) (eqS eS74 (eqI eI74 (eqR eR74 ?_)))
  have o12 := h.1
  replace h := h.2
  obtain ⟨R76, eR76⟩ : ∃ z : MR, z = up2 R74 x0 8 (sN S65) := ⟨_, rfl⟩
  replace h := h R76 eR76
  refine e_putR dX10_init_76 flX10_33 rfl (Or.inr ⟨rfl, rfl, rfl⟩) o12 (eqR eR76 ?_)
  refine e_aload_n 0 dX10_init_79 rfl ?_
  refine e_sipush (x := 200) dX10_init_80 ⟨by decide +kernel, by unfold InR; decide⟩ ?_
  obtain ⟨S83, eS83⟩ : ∃ z : Sh, z = shNew S74 22 200 200 := ⟨_, rfl⟩
  obtain ⟨I83, eI83⟩ : ∃ z : MI, z = mNew I74 (sN S74) 0 := ⟨_, rfl⟩
  obtain ⟨R83, eR83⟩ : ∃ z : MR, z = mNew R76 (sN S74) 0 := ⟨_, rfl⟩
  replace h := h S83 I83 R83 eS83 eI83 eR83
  refine e_newa (t := 22) (n := 200) dX10_init_83 (Or.inr (Or.inl ⟨rfl, rfl⟩)) acbyte rfl (by decide) (eqS eS83 (eqI eI83 (eqR eR83 ?_)))
  have o13 := h.1
  replace h := h.2
  obtain ⟨R85, eR85⟩ : ∃ z : MR, z = up2 R83 x0 10 (sN S74) := ⟨_, rfl⟩
  replace h := h R85 eR85
  refine e_putR dX10_init_85 flX10_36 rfl (Or.inr ⟨rfl, rfl, rfl⟩) o13 (eqR eR85 ?_)
  refine e_aload_n 0 dX10_init_88 rfl ?_
  refine e_iconst dX10_init_89 (by unfold InR; decide) ?_
  obtain ⟨I90, eI90⟩ : ∃ z : MI, z = up2 I83 x0 15 (-1) := ⟨_, rfl⟩
  replace h := h I90 eI90
  refine e_putI dX10_init_90 flX10_40 rfl (Or.inl rfl) o13 (eqI eI90 ?_)
  refine e_aload_n 0 dX10_init_93 rfl ?_
  refine e_iconst dX10_init_94 (by unfold InR; decide) ?_
  obtain ⟨S95, eS95⟩ : ∃ z : Sh, z = shNew S83 21 3 3 := ⟨_, rfl⟩
  obtain ⟨I95, eI95⟩ : ∃ z : MI, z = mNew I90 (sN S83) 0 := ⟨_, rfl⟩
  obtain ⟨R95, eR95⟩ : ∃ z : MR, z = mNew R85 (sN S83) 0 := ⟨_, rfl⟩
  replace h := h S95 I95 R95 eS95 eI95 eR95
  refine e_newa (t := 21) (n := 3) dX10_init_95 (Or.inl ⟨rfl, rfl⟩) acint rfl (by decide) (eqS eS95 (eqI eI95 (eqR eR95 ?_)))
  have o14 := h.1
  replace h := h.2
  obtain ⟨R97, eR97⟩ : ∃ z : MR, z = up2 R95 x0 17 (sN S83) := ⟨_, rfl⟩
  replace h := h R97 eR97
  refine e_putR dX10_init_97 flX10_43 rfl (Or.inr ⟨rfl, rfl, rfl⟩) o14 (eqR eR97 ?_)
  refine e_aload_n 0 dX10_init_100 rfl ?_
  refine e_sipush (x := 2000) dX10_init_101 ⟨by decide +kernel, by unfold InR; decide⟩ ?_
  obtain ⟨S104, eS104⟩ : ∃ z : Sh, z = shNew S95 21 2000 2000 := ⟨_, rfl⟩
  obtain ⟨I104, eI104⟩ : ∃ z : MI, z = mNew I95 (sN S95) 0 := ⟨_, rfl⟩
  obtain ⟨R104, eR104⟩ : ∃ z : MR, z = mNew R97 (sN S95) 0 := ⟨_, rfl⟩
  replace h := h S104 I104 R104 eS104 eI104 eR104
  refine e_newa (t := 21) (n := 2000) dX10_init_104 (Or.inl ⟨rfl, rfl⟩) acint rfl (by decide) (eqS eS104 (eqI eI104 (eqR eR104 ?_)))
  have o15 := h.1
  replace h := h.2
  obtain ⟨R106, eR106⟩ : ∃ z : MR, z = up2 R104 x0 18 (sN S95) := ⟨_, rfl⟩
  replace h := h R106 eR106
  refine e_putR dX10_init_106 flX10_46 rfl (Or.inr ⟨rfl, rfl, rfl⟩) o15 (eqR eR106 ?_)
  refine e_aload_n 0 dX10_init_109 rfl ?_
  refine e_sipush (x := 200) dX10_init_110 ⟨by decide +kernel, by unfold InR; decide⟩ ?_
  obtain ⟨S113, eS113⟩ : ∃ z : Sh, z = shNew S104 21 200 200 := ⟨_, rfl⟩
  obtain ⟨I113, eI113⟩ : ∃ z : MI, z = mNew I104 (sN S104) 0 := ⟨_, rfl⟩
  obtain ⟨R113, eR113⟩ : ∃ z : MR, z = mNew R106 (sN S104) 0 := ⟨_, rfl⟩
  replace h := h S113 I113 R113 eS113 eI113 eR113
  refine e_newa (t := 21) (n := 200) dX10_init_113 (Or.inl ⟨rfl, rfl⟩) acint rfl (by decide) (eqS eS113 (eqI eI113 (eqR eR113 ?_)))
  have o16 := h.1
  replace h := h.2
  obtain ⟨R115, eR115⟩ : ∃ z : MR, z = up2 R113 x0 26 (sN S104) := ⟨_, rfl⟩
  replace h := h R115 eR115
  refine e_putR dX10_init_115 flX10_49 rfl (Or.inr ⟨rfl, rfl, rfl⟩) o16 (eqR eR115 ?_)
  refine e_aload_n 0 dX10_init_118 rfl ?_
  refine e_sipush (x := 3000) dX10_init_119 ⟨by decide +kernel, by unfold InR; decide⟩ ?_
  obtain ⟨S122, eS122⟩ : ∃ z : Sh, z = shNew S113 21 3000 3000 := ⟨_, rfl⟩
  obtain ⟨I122, eI122⟩ : ∃ z : MI, z = mNew I113 (sN S113) 0 := ⟨_, rfl⟩
  obtain ⟨R122, eR122⟩ : ∃ z : MR, z = mNew R115 (sN S113) 0 := ⟨_, rfl⟩
  replace h := h S122 I122 R122 eS122 eI122 eR122
  refine e_newa (t := 21) (n := 3000) dX10_init_122 (Or.inl ⟨rfl, rfl⟩) acint rfl (by decide) (eqS eS122 (eqI eI122 (eqR eR122 ?_)))
  have o17 := h.1
  replace h := h.2
  obtain ⟨R124, eR124⟩ : ∃ z : MR, z = up2 R122 x0 27 (sN S113) := ⟨_, rfl⟩
  replace h := h R124 eR124
  refine e_putR dX10_init_124 flX10_52 rfl (Or.inr ⟨rfl, rfl, rfl⟩) o17 (eqR eR124 ?_)
  refine e_aload_n 0 dX10_init_127 rfl ?_
  refine e_sipush (x := 14400) dX10_init_128 ⟨by decide +kernel, by unfold InR; decide⟩ ?_
  obtain ⟨S131, eS131⟩ : ∃ z : Sh, z = shNew S122 21 14400 14400 := ⟨_, rfl⟩
  obtain ⟨I131, eI131⟩ : ∃ z : MI, z = mNew I122 (sN S122) 0 := ⟨_, rfl⟩
  obtain ⟨R131, eR131⟩ : ∃ z : MR, z = mNew R124 (sN S122) 0 := ⟨_, rfl⟩
  replace h := h S131 I131 R131 eS131 eI131 eR131
  refine e_newa (t := 21) (n := 14400) dX10_init_131 (Or.inl ⟨rfl, rfl⟩) acint rfl (by decide) (eqS eS131 (eqI eI131 (eqR eR131 ?_)))
  have o18 := h.1
  replace h := h.2
  obtain ⟨R133, eR133⟩ : ∃ z : MR, z = up2 R131 x0 29 (sN S122) := ⟨_, rfl⟩
  replace h := h R133 eR133
  refine e_putR dX10_init_133 flX10_55 rfl (Or.inr ⟨rfl, rfl, rfl⟩) o18 (eqR eR133 ?_)
  refine e_aload_n 0 dX10_init_136 rfl ?_
  refine e_bipush (x := 120) dX10_init_137 ⟨by decide +kernel, by unfold InR; decide⟩ ?_
  obtain ⟨S139, eS139⟩ : ∃ z : Sh, z = shNew S131 23 120 120 := ⟨_, rfl⟩
  obtain ⟨I139, eI139⟩ : ∃ z : MI, z = mNew I131 (sN S131) 0 := ⟨_, rfl⟩
  obtain ⟨R139, eR139⟩ : ∃ z : MR, z = mNew R133 (sN S131) 0 := ⟨_, rfl⟩
  replace h := h S139 I139 R139 eS139 eI139 eR139
  refine e_newa (t := 23) (n := 120) dX10_init_139 (Or.inr (Or.inr ⟨rfl, rfl⟩)) acboolean rfl (by decide) (eqS eS139 (eqI eI139 (eqR eR139 ?_)))
  have o19 := h.1
  replace h := h.2
  obtain ⟨R141, eR141⟩ : ∃ z : MR, z = up2 R139 x0 30 (sN S131) := ⟨_, rfl⟩
  replace h := h R141 eR141
  refine e_putR dX10_init_141 flX10_58 rfl (Or.inr ⟨rfl, rfl, rfl⟩) o19 (eqR eR141 ?_)
  refine e_aload_n 0 dX10_init_144 rfl ?_
  refine e_bipush (x := 120) dX10_init_145 ⟨by decide +kernel, by unfold InR; decide⟩ ?_
  obtain ⟨S147, eS147⟩ : ∃ z : Sh, z = shNew S139 21 120 120 := ⟨_, rfl⟩
  obtain ⟨I147, eI147⟩ : ∃ z : MI, z = mNew I139 (sN S139) 0 := ⟨_, rfl⟩
  obtain ⟨R147, eR147⟩ : ∃ z : MR, z = mNew R141 (sN S139) 0 := ⟨_, rfl⟩
  replace h := h S147 I147 R147 eS147 eI147 eR147
  refine e_newa (t := 21) (n := 120) dX10_init_147 (Or.inl ⟨rfl, rfl⟩) acint rfl (by decide) (eqS eS147 (eqI eI147 (eqR eR147 ?_)))
  have o20 := h.1
  replace h := h.2
  obtain ⟨R149, eR149⟩ : ∃ z : MR, z = up2 R147 x0 31 (sN S139) := ⟨_, rfl⟩
  replace h := h R149 eR149
  refine e_putR dX10_init_149 flX10_62 rfl (Or.inr ⟨rfl, rfl, rfl⟩) o20 (eqR eR149 ?_)
  exact e_return dX10_init_152 rfl ⟨rfl, h⟩

def vX10_isIn  (x0 : Nat) (x1 : Int) (x3 : Int) (x5 : Int) : Int := (if (lcmp x1 x3) < 0 then 0 else (if 0 < (lcmp x1 x5) then 0 else 1))
set_option maxRecDepth 100000 in
set_option maxHeartbeats 4000000 in
theorem sX10_isIn {G : Gl} {S : Sh} {I : MI} {R : MR} {Q : Sh → MI → MR → Int → Prop} {x0 : Nat} {x1 : Int} {x3 : Int} {x5 : Int} (hq : Q S I R (vX10_isIn x0 x1 x3 x5)) : CI G MX10_isIn [vR x0, vL x1, vL x3, vL x5] S I R Q := by
  show E G MX10_isIn 0 [(0, vR x0), (1, vL x1), (3, vL x3), (5, vL x5)] [] S I R (qI Q)
  unfold vX10_isIn at hq
  refine e_lload_n 1 dX10_isIn_0 rfl ?_
  refine e_lload_n 2 dX10_isIn_1 rfl ?_
  refine e_lcmp dX10_isIn_2 ?_
  refine e_if_lt (tgt := 17) dX10_isIn_3 (by decide) (fun c => ?_) (fun c => ?_)
  · rw [if_pos c] at hq
    refine e_iconst dX10_isIn_17 (by unfold InR; decide) ?_
    exact e_zreturn dX10_isIn_18 rfl (by decide) ⟨_, rfl, hq⟩
  · rw [if_neg c] at hq
    refine e_lload_n 1 dX10_isIn_6 rfl ?_
    refine e_lload 3 dX10_isIn_7 rfl ?_
    refine e_lcmp dX10_isIn_9 ?_
    refine e_if_gt (tgt := 17) dX10_isIn_10 (by decide) (fun c => ?_) (fun c => ?_)
    · rw [if_pos c] at hq
      refine e_iconst dX10_isIn_17 (by unfold InR; decide) ?_
      exact e_zreturn dX10_isIn_18 rfl (by decide) ⟨_, rfl, hq⟩
    · rw [if_neg c] at hq
      refine e_iconst dX10_isIn_13 (by unfold InR; decide) ?_
      refine e_goto (tgt := 18) dX10_isIn_14 (by decide) ?_
      exact e_zreturn dX10_isIn_18 rfl (by decide) ⟨_, rfl, hq⟩

def vX10_has  (x0 : Nat) (x1 : Int) (x2 : Int) : Int := (if (iand (ishr x1 x2) 1) ≠ 1 then 0 else 1)
set_option maxRecDepth 100000 in
set_option maxHeartbeats 4000000 in
theorem sX10_has {G : Gl} {S : Sh} {I : MI} {R : MR} {Q : Sh → MI → MR → Int → Prop} {x0 : Nat} {x1 : Int} {x2 : Int} (hq : Q S I R (vX10_has x0 x1 x2)) : CI G MX10_has [vR x0, vI x1, vI x2] S I R Q := by
  show E G MX10_has 0 [(0, vR x0), (1, vI x1), (2, vI x2)] [] S I R (qI Q)
  unfold vX10_has at hq
  refine e_iload_n 1 dX10_has_0 rfl ?_
  refine e_iload_n 2 dX10_has_1 rfl ?_
  refine e_ishr dX10_has_2 ?_
  refine e_iconst dX10_has_3 (by unfold InR; decide) ?_
  refine e_iand dX10_has_4 ?_
  refine e_iconst dX10_has_5 (by unfold InR; decide) ?_
  refine e_icmp_ne (tgt := 13) dX10_has_6 (by decide) (fun c => ?_) (fun c => ?_)
  · rw [if_pos c] at hq
    refine e_iconst dX10_has_13 (by unfold InR; decide) ?_
    exact e_zreturn dX10_has_14 rfl (by decide) ⟨_, rfl, hq⟩
  · rw [if_neg c] at hq
    refine e_iconst dX10_has_9 (by unfold InR; decide) ?_
    refine e_goto (tgt := 14) dX10_has_10 (by decide) ?_
    exact e_zreturn dX10_has_14 rfl (by decide) ⟨_, rfl, hq⟩

def vX10_modulo (I : MI) (x0 : Nat) (x1 : Int) : Int := (w32 (lrem (w64 ((lrem x1 (I x0 2)) + (I x0 2))) (I x0 2)))
def pX10_modulo (S : Sh) (I : MI) (x0 : Nat) (x1 : Int) : Prop := (sT S x0 = 10 ∧ ((I x0 2) ≠ 0 ∧ True))
set_option maxRecDepth 100000 in
set_option maxHeartbeats 4000000 in
theorem sX10_modulo {G : Gl} {S : Sh} {I : MI} {R : MR} {Q : Sh → MI → MR → Int → Prop} {x0 : Nat} {x1 : Int} (hp : pX10_modulo S I x0 x1) (hq : Q S I R (vX10_modulo I x0 x1)) : CI G MX10_modulo [vR x0, vL x1] S I R Q := by
  show E G MX10_modulo 0 [(0, vR x0), (1, vL x1)] [] S I R (qI Q)
  unfold vX10_modulo at hq
  unfold pX10_modulo at hp
  refine e_lload_n 1 dX10_modulo_0 rfl ?_
  refine e_aload_n 0 dX10_modulo_1 rfl ?_
  have o1 := hp.1
  replace hp := hp.2
  refine e_getI dX10_modulo_2 flX10_13 rfl o1 ?_
  refine e_i2l dX10_modulo_5 ?_
  have o2 := hp.1
  replace hp := hp.2
  refine e_lrem dX10_modulo_6 o2 ?_
  refine e_aload_n 0 dX10_modulo_7 rfl ?_
  refine e_getI dX10_modulo_8 flX10_13 rfl o1 ?_
  refine e_i2l dX10_modulo_11 ?_
  refine e_ladd dX10_modulo_12 ?_
  refine e_aload_n 0 dX10_modulo_13 rfl ?_
  refine e_getI dX10_modulo_14 flX10_13 rfl o1 ?_
  refine e_i2l dX10_modulo_17 ?_
  refine e_lrem dX10_modulo_18 o2 ?_
  refine e_l2i dX10_modulo_19 ?_
  exact e_ireturn dX10_modulo_20 rfl ⟨_, rfl, hq⟩

def LX10_turned_14 (G : Gl) (x0 : Nat) (x2 : Int) (x4 : Int) (x6 : Int) (S : Sh) (I : MI) (R : MR) (Q : Sh → MI → MR → Int → Prop) : Prop := E G MX10_turned 14 [(0, vR x0), (2, vL x2), (4, vL x4), (6, vI x6)] [] S I R (qI Q)
def LX10_turned_39 (G : Gl) (x0 : Nat) (x2 : Int) (x4 : Int) (x6 : Int) (S : Sh) (I : MI) (R : MR) (Q : Sh → MI → MR → Int → Prop) : Prop := E G MX10_turned 39 [(0, vR x0), (2, vL x2), (4, vL x4), (6, vI x6)] [] S I R (qI Q)
set_option maxRecDepth 100000 in
set_option maxHeartbeats 4000000 in
theorem bX10_turned {G : Gl} {S : Sh} {I : MI} {R : MR} {Q : Sh → MI → MR → Int → Prop} {x0 : Nat} {x1 : Int} (h : (sT S x0 = 10 ∧ LX10_turned_14 G x0 x1 1 (w32 ((I x0 2) - 2)) S I R Q)) : CI G MX10_turned [vR x0, vI x1] S I R Q := by
  show E G MX10_turned 0 [(0, vR x0), (1, vI x1)] [] S I R (qI Q)
  refine e_iload_n 1 dX10_turned_0 rfl ?_
  refine e_i2l dX10_turned_1 ?_
  refine e_lstore_n (ls2 := [(2, vL x1), (0, vR x0), (1, vI x1)]) dX10_turned_2 (by decide) rfl ?_
  refine e_lconst (x := 1) dX10_turned_3 ⟨by decide +kernel, by unfold InL; decide⟩ ?_
  refine e_lstore (ls2 := [(4, vL 1), (2, vL x1), (0, vR x0), (1, vI x1)]) dX10_turned_4 (by decide) rfl ?_
  refine e_aload_n 2 dX10_turned_6 rfl ?_
  have o1 := h.1
  replace h := h.2
  refine e_getI dX10_turned_7 flX10_13 rfl o1 ?_
  refine e_iconst dX10_turned_10 (by unfold InR; decide) ?_
  refine e_isub dX10_turned_11 ?_
  refine e_istore (ls2 := [(6, vI (w32 ((I x0 2) - 2))), (4, vL 1), (2, vL x1), (0, vR x0), (1, vI x1)]) dX10_turned_12 (by decide) rfl ?_
  exact e_sub (ls2 := [(0, vR x0), (2, vL x1), (4, vL 1), (6, vI (w32 ((I x0 2) - 2)))]) [3, 2, 1, 0] rfl h
set_option maxRecDepth 100000 in
set_option maxHeartbeats 4000000 in
theorem bX10_turned_14 {G : Gl} {S : Sh} {I : MI} {R : MR} {Q : Sh → MI → MR → Int → Prop} {x0 : Nat} {x2 : Int} {x4 : Int} {x6 : Int} (h : ((x6 ≤ 0 → Q S I R (w32 x4)) ∧ (¬ (x6 ≤ 0) → (((irem x6 2) ≠ 1 → LX10_turned_39 G x0 x2 x4 x6 S I R Q) ∧ (¬ ((irem x6 2) ≠ 1) → (sT S x0 = 10 ∧ ((I x0 2) ≠ 0 ∧ LX10_turned_39 G x0 x2 (lrem (w64 (x4 * x2)) (I x0 2)) x6 S I R Q))))))) : LX10_turned_14 G x0 x2 x4 x6 S I R Q := by
  show E G MX10_turned 14 [(0, vR x0), (2, vL x2), (4, vL x4), (6, vI x6)] [] S I R (qI Q)
  refine e_iload 3 dX10_turned_14 rfl ?_
  refine e_if_le (tgt := 58) dX10_turned_16 (by decide) (fun c => ?_) (fun c => ?_)
  · replace h := h.1 c
    refine e_lload 2 dX10_turned_58 rfl ?_
    refine e_l2i dX10_turned_60 ?_
    exact e_ireturn dX10_turned_61 rfl ⟨_, rfl, h⟩
  · replace h := h.2 c
    refine e_iload 3 dX10_turned_19 rfl ?_
    refine e_iconst dX10_turned_21 (by unfold InR; decide) ?_
    refine e_irem dX10_turned_22 (by decide) ?_
    refine e_iconst dX10_turned_23 (by unfold InR; decide) ?_
    refine e_icmp_ne (tgt := 39) dX10_turned_24 (by decide) (fun c => ?_) (fun c => ?_)
    · replace h := h.1 c
      exact e_sub (ls2 := [(0, vR x0), (2, vL x2), (4, vL x4), (6, vI x6)]) [0, 1, 2, 3] rfl h
    · replace h := h.2 c
      refine e_lload 2 dX10_turned_27 rfl ?_
      refine e_lload_n 1 dX10_turned_29 rfl ?_
      refine e_lmul dX10_turned_30 ?_
      refine e_aload_n 0 dX10_turned_31 rfl ?_
      have o2 := h.1
      replace h := h.2
      refine e_getI dX10_turned_32 flX10_13 rfl o2 ?_
      refine e_i2l dX10_turned_35 ?_
      have o3 := h.1
      replace h := h.2
      refine e_lrem dX10_turned_36 o3 ?_
      refine e_lstore (ls2 := [(4, vL (lrem (w64 (x4 * x2)) (I x0 2))), (0, vR x0), (2, vL x2), (6, vI x6)]) dX10_turned_37 (by decide) rfl ?_
      exact e_sub (ls2 := [(0, vR x0), (2, vL x2), (4, vL (lrem (w64 (x4 * x2)) (I x0 2))), (6, vI x6)]) [1, 2, 0, 3] rfl h
set_option maxRecDepth 100000 in
set_option maxHeartbeats 4000000 in
theorem bX10_turned_39 {G : Gl} {S : Sh} {I : MI} {R : MR} {Q : Sh → MI → MR → Int → Prop} {x0 : Nat} {x2 : Int} {x4 : Int} {x6 : Int} (h : (sT S x0 = 10 ∧ ((I x0 2) ≠ 0 ∧ LX10_turned_14 G x0 (lrem (w64 (x2 * x2)) (I x0 2)) x4 (idiv x6 2) S I R Q))) : LX10_turned_39 G x0 x2 x4 x6 S I R Q := by
  show E G MX10_turned 39 [(0, vR x0), (2, vL x2), (4, vL x4), (6, vI x6)] [] S I R (qI Q)
  refine e_lload_n 1 dX10_turned_39 rfl ?_
  refine e_lload_n 1 dX10_turned_40 rfl ?_
  refine e_lmul dX10_turned_41 ?_
  refine e_aload_n 0 dX10_turned_42 rfl ?_
  have o4 := h.1
  replace h := h.2
  refine e_getI dX10_turned_43 flX10_13 rfl o4 ?_
  refine e_i2l dX10_turned_46 ?_
  have o5 := h.1
  replace h := h.2
  refine e_lrem dX10_turned_47 o5 ?_
  refine e_lstore_n (ls2 := [(2, vL (lrem (w64 (x2 * x2)) (I x0 2))), (0, vR x0), (4, vL x4), (6, vI x6)]) dX10_turned_48 (by decide) rfl ?_
  refine e_iload 3 dX10_turned_49 rfl ?_
  refine e_iconst dX10_turned_51 (by unfold InR; decide) ?_
  refine e_idiv dX10_turned_52 (by decide) ?_
  refine e_istore (ls2 := [(6, vI (idiv x6 2)), (2, vL (lrem (w64 (x2 * x2)) (I x0 2))), (0, vR x0), (4, vL x4)]) dX10_turned_53 (by decide) rfl ?_
  refine e_goto (tgt := 14) dX10_turned_55 (by decide) ?_
  exact e_sub (ls2 := [(0, vR x0), (2, vL (lrem (w64 (x2 * x2)) (I x0 2))), (4, vL x4), (6, vI (idiv x6 2))]) [2, 1, 3, 0] rfl h

def vX10_at  (x0 : Nat) (x1 : Int) (x2 : Int) : Int := (w32 ((w32 (60 * x1)) + x2))
set_option maxRecDepth 100000 in
set_option maxHeartbeats 4000000 in
theorem sX10_at {G : Gl} {S : Sh} {I : MI} {R : MR} {Q : Sh → MI → MR → Int → Prop} {x0 : Nat} {x1 : Int} {x2 : Int} (hq : Q S I R (vX10_at x0 x1 x2)) : CI G MX10_at [vR x0, vI x1, vI x2] S I R Q := by
  show E G MX10_at 0 [(0, vR x0), (1, vI x1), (2, vI x2)] [] S I R (qI Q)
  unfold vX10_at at hq
  refine e_bipush (x := 60) dX10_at_0 ⟨by decide +kernel, by unfold InR; decide⟩ ?_
  refine e_iload_n 1 dX10_at_2 rfl ?_
  refine e_imul dX10_at_3 ?_
  refine e_iload_n 2 dX10_at_4 rfl ?_
  refine e_iadd dX10_at_5 ?_
  exact e_ireturn dX10_at_6 rfl ⟨_, rfl, hq⟩

def vX10_power (I : MI) (R : MR) (x0 : Nat) (x1 : Int) (x2 : Int) (x3 : Int) : Int := (I (R x0 6) (Int.toNat (w32 ((w32 (3 * (vX10_at x0 x1 x2))) + x3))))
def pX10_power (S : Sh) (R : MR) (x0 : Nat) (x1 : Int) (x2 : Int) (x3 : Int) : Prop := (sT S x0 = 10 ∧ (sT S (R x0 6) = 21 ∧ (((0 : Int) ≤ (w32 ((w32 (3 * (vX10_at x0 x1 x2))) + x3)) ∧ (w32 ((w32 (3 * (vX10_at x0 x1 x2))) + x3)) < (sL S (R x0 6) : Int)) ∧ True)))
set_option maxRecDepth 100000 in
set_option maxHeartbeats 4000000 in
theorem sX10_power {G : Gl} {S : Sh} {I : MI} {R : MR} {Q : Sh → MI → MR → Int → Prop} {x0 : Nat} {x1 : Int} {x2 : Int} {x3 : Int} (hp : pX10_power S R x0 x1 x2 x3) (hq : Q S I R (vX10_power I R x0 x1 x2 x3)) : CI G MX10_power [vR x0, vI x1, vI x2, vI x3] S I R Q := by
  show E G MX10_power 0 [(0, vR x0), (1, vI x1), (2, vI x2), (3, vI x3)] [] S I R (qI Q)
  unfold vX10_power at hq
  unfold pX10_power at hp
  refine e_aload_n 0 dX10_power_0 rfl ?_
  have o1 := hp.1
  replace hp := hp.2
  refine e_getR dX10_power_1 flX10_27 rfl o1 ?_
  refine e_iconst dX10_power_4 (by unfold InR; decide) ?_
  refine e_aload_n 0 dX10_power_5 rfl ?_
  refine e_iload_n 1 dX10_power_6 rfl ?_
  refine e_iload_n 2 dX10_power_7 rfl ?_
  refine i_VI (μ' := MX10_at) (ci := 9) (r := x0) (as := [vI x1, vI x2]) (st := [vI 3, vR (R x0 6)]) rfl dX10_power_8 mOKX10_at ⟨mlX10_68, imX10_at, seX10_at⟩ (by decide) (Nat.le_of_ble_eq_true rfl) rfl (Nat.le_of_ble_eq_true rfl) ⟨by decide, rfl⟩ o1 (sX10_at ?_)
  refine e_imul dX10_power_11 ?_
  refine e_iload_n 3 dX10_power_12 rfl ?_
  refine e_iadd dX10_power_13 ?_
  have o2 := hp.1
  replace hp := hp.2
  have o3 := hp.1
  replace hp := hp.2
  refine e_iald dX10_power_14 o2 o3 ?_
  exact e_ireturn dX10_power_15 rfl ⟨_, rfl, hq⟩

def vX10_degreeOf (I : MI) (R : MR) (x0 : Nat) (x1 : Int) (x2 : Int) (x3 : Int) : Int := (if (I x0 1) ≤ 1 then (if (I x0 1) ≤ 2 then (w32 ((w32 ((w32 ((I (R x0 3) (Int.toNat 0)) * x1)) + 0)) + 0)) else (w32 ((w32 ((w32 ((I (R x0 3) (Int.toNat 0)) * x1)) + 0)) + (w32 ((I (R x0 3) (Int.toNat 2)) * x3))))) else (if (I x0 1) ≤ 2 then (w32 ((w32 ((w32 ((I (R x0 3) (Int.toNat 0)) * x1)) + (w32 ((I (R x0 3) (Int.toNat 1)) * x2)))) + 0)) else (w32 ((w32 ((w32 ((I (R x0 3) (Int.toNat 0)) * x1)) + (w32 ((I (R x0 3) (Int.toNat 1)) * x2)))) + (w32 ((I (R x0 3) (Int.toNat 2)) * x3))))))
def pX10_degreeOf (S : Sh) (I : MI) (R : MR) (x0 : Nat) (x1 : Int) (x2 : Int) (x3 : Int) : Prop := (sT S x0 = 10 ∧ (sT S (R x0 3) = 21 ∧ (((0 : Int) ≤ 0 ∧ 0 < (sL S (R x0 3) : Int)) ∧ (((I x0 1) ≤ 1 → (((I x0 1) ≤ 2 → True) ∧ (¬ ((I x0 1) ≤ 2) → (((0 : Int) ≤ 2 ∧ 2 < (sL S (R x0 3) : Int)) ∧ True)))) ∧ (¬ ((I x0 1) ≤ 1) → (((0 : Int) ≤ 1 ∧ 1 < (sL S (R x0 3) : Int)) ∧ (((I x0 1) ≤ 2 → True) ∧ (¬ ((I x0 1) ≤ 2) → (((0 : Int) ≤ 2 ∧ 2 < (sL S (R x0 3) : Int)) ∧ True)))))))))
set_option maxRecDepth 100000 in
set_option maxHeartbeats 4000000 in
theorem sX10_degreeOf {G : Gl} {S : Sh} {I : MI} {R : MR} {Q : Sh → MI → MR → Int → Prop} {x0 : Nat} {x1 : Int} {x2 : Int} {x3 : Int} (hp : pX10_degreeOf S I R x0 x1 x2 x3) (hq : Q S I R (vX10_degreeOf I R x0 x1 x2 x3)) : CI G MX10_degreeOf [vR x0, vI x1, vI x2, vI x3] S I R Q := by
  show E G MX10_degreeOf 0 [(0, vR x0), (1, vI x1), (2, vI x2), (3, vI x3)] [] S I R (qI Q)
  unfold vX10_degreeOf at hq
  unfold pX10_degreeOf at hp
  refine e_aload_n 0 dX10_degreeOf_0 rfl ?_
  have o1 := hp.1
  replace hp := hp.2
  refine e_getR dX10_degreeOf_1 flX10_16 rfl o1 ?_
  refine e_iconst dX10_degreeOf_4 (by unfold InR; decide) ?_
  have o2 := hp.1
  replace hp := hp.2
  have o3 := hp.1
  replace hp := hp.2
  refine e_iald dX10_degreeOf_5 o2 o3 ?_
  refine e_iload_n 1 dX10_degreeOf_6 rfl ?_
  refine e_imul dX10_degreeOf_7 ?_
  refine e_aload_n 0 dX10_degreeOf_8 rfl ?_
  refine e_getI dX10_degreeOf_9 flX10_7 rfl o1 ?_
  refine e_iconst dX10_degreeOf_12 (by unfold InR; decide) ?_
  refine e_icmp_le (tgt := 27) dX10_degreeOf_13 (by decide) (fun c => ?_) (fun c => ?_)
  · rw [if_pos c] at hq
    replace hp := hp.1 c
    refine e_iconst dX10_degreeOf_27 (by unfold InR; decide) ?_
    refine e_iadd dX10_degreeOf_28 ?_
    refine e_aload_n 0 dX10_degreeOf_29 rfl ?_
    refine e_getI dX10_degreeOf_30 flX10_7 rfl o1 ?_
    refine e_iconst dX10_degreeOf_33 (by unfold InR; decide) ?_
    refine e_icmp_le (tgt := 48) dX10_degreeOf_34 (by decide) (fun c => ?_) (fun c => ?_)
    · rw [if_pos c] at hq
      replace hp := hp.1 c
      refine e_iconst dX10_degreeOf_48 (by unfold InR; decide) ?_
      refine e_iadd dX10_degreeOf_49 ?_
      exact e_ireturn dX10_degreeOf_50 rfl ⟨_, rfl, hq⟩
    · rw [if_neg c] at hq
      replace hp := hp.2 c
      refine e_aload_n 0 dX10_degreeOf_37 rfl ?_
      refine e_getR dX10_degreeOf_38 flX10_16 rfl o1 ?_
      refine e_iconst dX10_degreeOf_41 (by unfold InR; decide) ?_
      have o4 := hp.1
      replace hp := hp.2
      refine e_iald dX10_degreeOf_42 o2 o4 ?_
      refine e_iload_n 3 dX10_degreeOf_43 rfl ?_
      refine e_imul dX10_degreeOf_44 ?_
      refine e_goto (tgt := 49) dX10_degreeOf_45 (by decide) ?_
      refine e_iadd dX10_degreeOf_49 ?_
      exact e_ireturn dX10_degreeOf_50 rfl ⟨_, rfl, hq⟩
  · rw [if_neg c] at hq
    replace hp := hp.2 c
    refine e_aload_n 0 dX10_degreeOf_16 rfl ?_
    refine e_getR dX10_degreeOf_17 flX10_16 rfl o1 ?_
    refine e_iconst dX10_degreeOf_20 (by unfold InR; decide) ?_
    have o5 := hp.1
    replace hp := hp.2
    refine e_iald dX10_degreeOf_21 o2 o5 ?_
    refine e_iload_n 2 dX10_degreeOf_22 rfl ?_
    refine e_imul dX10_degreeOf_23 ?_
    refine e_goto (tgt := 28) dX10_degreeOf_24 (by decide) ?_
    refine e_iadd dX10_degreeOf_28 ?_
    refine e_aload_n 0 dX10_degreeOf_29 rfl ?_
    refine e_getI dX10_degreeOf_30 flX10_7 rfl o1 ?_
    refine e_iconst dX10_degreeOf_33 (by unfold InR; decide) ?_
    refine e_icmp_le (tgt := 48) dX10_degreeOf_34 (by decide) (fun c => ?_) (fun c => ?_)
    · rw [if_pos c] at hq
      replace hp := hp.1 c
      refine e_iconst dX10_degreeOf_48 (by unfold InR; decide) ?_
      refine e_iadd dX10_degreeOf_49 ?_
      exact e_ireturn dX10_degreeOf_50 rfl ⟨_, rfl, hq⟩
    · rw [if_neg c] at hq
      replace hp := hp.2 c
      refine e_aload_n 0 dX10_degreeOf_37 rfl ?_
      refine e_getR dX10_degreeOf_38 flX10_16 rfl o1 ?_
      refine e_iconst dX10_degreeOf_41 (by unfold InR; decide) ?_
      have o6 := hp.1
      replace hp := hp.2
      refine e_iald dX10_degreeOf_42 o2 o6 ?_
      refine e_iload_n 3 dX10_degreeOf_43 rfl ?_
      refine e_imul dX10_degreeOf_44 ?_
      refine e_goto (tgt := 49) dX10_degreeOf_45 (by decide) ?_
      refine e_iadd dX10_degreeOf_49 ?_
      exact e_ireturn dX10_degreeOf_50 rfl ⟨_, rfl, hq⟩

def vX10_degree (I : MI) (R : MR) (x0 : Nat) (x1 : Int) (x2 : Int) : Int := (vX10_degreeOf I R x0 (vX10_power I R x0 x1 x2 0) (vX10_power I R x0 x1 x2 1) (vX10_power I R x0 x1 x2 2))
def pX10_degree (S : Sh) (I : MI) (R : MR) (x0 : Nat) (x1 : Int) (x2 : Int) : Prop := (sT S x0 = 10 ∧ ((pX10_power S R x0 x1 x2 0) ∧ ((pX10_power S R x0 x1 x2 1) ∧ ((pX10_power S R x0 x1 x2 2) ∧ ((pX10_degreeOf S I R x0 (vX10_power I R x0 x1 x2 0) (vX10_power I R x0 x1 x2 1) (vX10_power I R x0 x1 x2 2)) ∧ True)))))
set_option maxRecDepth 100000 in
set_option maxHeartbeats 4000000 in
theorem sX10_degree {G : Gl} {S : Sh} {I : MI} {R : MR} {Q : Sh → MI → MR → Int → Prop} {x0 : Nat} {x1 : Int} {x2 : Int} (hp : pX10_degree S I R x0 x1 x2) (hq : Q S I R (vX10_degree I R x0 x1 x2)) : CI G MX10_degree [vR x0, vI x1, vI x2] S I R Q := by
  show E G MX10_degree 0 [(0, vR x0), (1, vI x1), (2, vI x2)] [] S I R (qI Q)
  unfold vX10_degree at hq
  unfold pX10_degree at hp
  refine e_aload_n 0 dX10_degree_0 rfl ?_
  refine e_aload_n 0 dX10_degree_1 rfl ?_
  refine e_iload_n 1 dX10_degree_2 rfl ?_
  refine e_iload_n 2 dX10_degree_3 rfl ?_
  refine e_iconst dX10_degree_4 (by unfold InR; decide) ?_
  have o1 := hp.1
  replace hp := hp.2
  have o2 := hp.1
  replace hp := hp.2
  refine i_VI (μ' := MX10_power) (ci := 9) (r := x0) (as := [vI x1, vI x2, vI 0]) (st := [vR x0]) rfl dX10_degree_5 mOKX10_power ⟨mlX10_72, imX10_power, seX10_power⟩ (by decide) (Nat.le_of_ble_eq_true rfl) rfl (Nat.le_of_ble_eq_true rfl) ⟨by decide, rfl⟩ o1 (sX10_power o2 ?_)
  refine e_aload_n 0 dX10_degree_8 rfl ?_
  refine e_iload_n 1 dX10_degree_9 rfl ?_
  refine e_iload_n 2 dX10_degree_10 rfl ?_
  refine e_iconst dX10_degree_11 (by unfold InR; decide) ?_
  have o3 := hp.1
  replace hp := hp.2
  refine i_VI (μ' := MX10_power) (ci := 9) (r := x0) (as := [vI x1, vI x2, vI 1]) (st := [vI (vX10_power I R x0 x1 x2 0), vR x0]) rfl dX10_degree_12 mOKX10_power ⟨mlX10_72, imX10_power, seX10_power⟩ (by decide) (Nat.le_of_ble_eq_true rfl) rfl (Nat.le_of_ble_eq_true rfl) ⟨by decide, rfl⟩ o1 (sX10_power o3 ?_)
  refine e_aload_n 0 dX10_degree_15 rfl ?_
  refine e_iload_n 1 dX10_degree_16 rfl ?_
  refine e_iload_n 2 dX10_degree_17 rfl ?_
  refine e_iconst dX10_degree_18 (by unfold InR; decide) ?_
  have o4 := hp.1
  replace hp := hp.2
  refine i_VI (μ' := MX10_power) (ci := 9) (r := x0) (as := [vI x1, vI x2, vI 2]) (st := [vI (vX10_power I R x0 x1 x2 1), vI (vX10_power I R x0 x1 x2 0), vR x0]) rfl dX10_degree_19 mOKX10_power ⟨mlX10_72, imX10_power, seX10_power⟩ (by decide) (Nat.le_of_ble_eq_true rfl) rfl (Nat.le_of_ble_eq_true rfl) ⟨by decide, rfl⟩ o1 (sX10_power o4 ?_)
  have o5 := hp.1
  replace hp := hp.2
  refine i_VI (μ' := MX10_degreeOf) (ci := 9) (r := x0) (as := [vI (vX10_power I R x0 x1 x2 0), vI (vX10_power I R x0 x1 x2 1), vI (vX10_power I R x0 x1 x2 2)]) (st := []) rfl dX10_degree_22 mOKX10_degreeOf ⟨mlX10_76, imX10_degreeOf, seX10_degreeOf⟩ (by decide) (Nat.le_of_ble_eq_true rfl) rfl (Nat.le_of_ble_eq_true rfl) ⟨by decide, rfl⟩ o1 (sX10_degreeOf o5 ?_)
  exact e_ireturn dX10_degree_25 rfl ⟨_, rfl, hq⟩

def vX10_compares (I : MI) (R : MR) (x0 : Nat) (x1 : Int) (x2 : Int) (x3 : Int) (x4 : Int) (x5 : Int) (x6 : Int) : Int := (if (w32 ((vX10_degreeOf I R x0 x1 x2 x3) - (vX10_degreeOf I R x0 x4 x5 x6))) = 0 then (if x1 = x4 then (if x2 = x5 then (w32 (x6 - x3)) else (w32 (x5 - x2))) else (w32 (x4 - x1))) else (w32 ((vX10_degreeOf I R x0 x1 x2 x3) - (vX10_degreeOf I R x0 x4 x5 x6))))
def pX10_compares (S : Sh) (I : MI) (R : MR) (x0 : Nat) (x1 : Int) (x2 : Int) (x3 : Int) (x4 : Int) (x5 : Int) (x6 : Int) : Prop := (sT S x0 = 10 ∧ ((pX10_degreeOf S I R x0 x1 x2 x3) ∧ ((pX10_degreeOf S I R x0 x4 x5 x6) ∧ True)))
set_option maxRecDepth 100000 in
set_option maxHeartbeats 4000000 in
theorem sX10_compares {G : Gl} {S : Sh} {I : MI} {R : MR} {Q : Sh → MI → MR → Int → Prop} {x0 : Nat} {x1 : Int} {x2 : Int} {x3 : Int} {x4 : Int} {x5 : Int} {x6 : Int} (hp : pX10_compares S I R x0 x1 x2 x3 x4 x5 x6) (hq : Q S I R (vX10_compares I R x0 x1 x2 x3 x4 x5 x6)) : CI G MX10_compares [vR x0, vI x1, vI x2, vI x3, vI x4, vI x5, vI x6] S I R Q := by
  show E G MX10_compares 0 [(0, vR x0), (1, vI x1), (2, vI x2), (3, vI x3), (4, vI x4), (5, vI x5), (6, vI x6)] [] S I R (qI Q)
  unfold vX10_compares at hq
  unfold pX10_compares at hp
  refine e_aload_n 0 dX10_compares_0 rfl ?_
  refine e_iload_n 1 dX10_compares_1 rfl ?_
  refine e_iload_n 2 dX10_compares_2 rfl ?_
  refine e_iload_n 3 dX10_compares_3 rfl ?_
  have o1 := hp.1
  replace hp := hp.2
  have o2 := hp.1
  replace hp := hp.2
  refine i_VI (μ' := MX10_degreeOf) (ci := 9) (r := x0) (as := [vI x1, vI x2, vI x3]) (st := []) rfl dX10_compares_4 mOKX10_degreeOf ⟨mlX10_76, imX10_degreeOf, seX10_degreeOf⟩ (by decide) (Nat.le_of_ble_eq_true rfl) rfl (Nat.le_of_ble_eq_true rfl) ⟨by decide, rfl⟩ o1 (sX10_degreeOf o2 ?_)
  refine e_aload_n 0 dX10_compares_7 rfl ?_
  refine e_iload 4 dX10_compares_8 rfl ?_
  refine e_iload 5 dX10_compares_10 rfl ?_
  refine e_iload 6 dX10_compares_12 rfl ?_
  have o3 := hp.1
  replace hp := hp.2
  refine i_VI (μ' := MX10_degreeOf) (ci := 9) (r := x0) (as := [vI x4, vI x5, vI x6]) (st := [vI (vX10_degreeOf I R x0 x1 x2 x3)]) rfl dX10_compares_14 mOKX10_degreeOf ⟨mlX10_76, imX10_degreeOf, seX10_degreeOf⟩ (by decide) (Nat.le_of_ble_eq_true rfl) rfl (Nat.le_of_ble_eq_true rfl) ⟨by decide, rfl⟩ o1 (sX10_degreeOf o3 ?_)
  refine e_isub dX10_compares_17 ?_
  refine e_istore (ls2 := [(7, vI (w32 ((vX10_degreeOf I R x0 x1 x2 x3) - (vX10_degreeOf I R x0 x4 x5 x6)))), (0, vR x0), (1, vI x1), (2, vI x2), (3, vI x3), (4, vI x4), (5, vI x5), (6, vI x6)]) dX10_compares_18 (by decide) rfl ?_
  refine e_iload 0 dX10_compares_20 rfl ?_
  refine e_if_eq (tgt := 28) dX10_compares_22 (by decide) (fun c => ?_) (fun c => ?_)
  · rw [if_pos c] at hq
    refine e_iload_n 2 dX10_compares_28 rfl ?_
    refine e_iload 5 dX10_compares_29 rfl ?_
    refine e_icmp_eq (tgt := 39) dX10_compares_31 (by decide) (fun c => ?_) (fun c => ?_)
    · rw [if_pos c] at hq
      refine e_iload_n 3 dX10_compares_39 rfl ?_
      refine e_iload 6 dX10_compares_40 rfl ?_
      refine e_icmp_eq (tgt := 52) dX10_compares_42 (by decide) (fun c => ?_) (fun c => ?_)
      · rw [if_pos c] at hq
        refine e_iload 7 dX10_compares_52 rfl ?_
        refine e_iload_n 4 dX10_compares_54 rfl ?_
        refine e_isub dX10_compares_55 ?_
        exact e_ireturn dX10_compares_56 rfl ⟨_, rfl, hq⟩
      · rw [if_neg c] at hq
        refine e_iload 6 dX10_compares_45 rfl ?_
        refine e_iload_n 3 dX10_compares_47 rfl ?_
        refine e_isub dX10_compares_48 ?_
        refine e_goto (tgt := 56) dX10_compares_49 (by decide) ?_
        exact e_ireturn dX10_compares_56 rfl ⟨_, rfl, hq⟩
    · rw [if_neg c] at hq
      refine e_iload 5 dX10_compares_34 rfl ?_
      refine e_iload_n 2 dX10_compares_36 rfl ?_
      refine e_isub dX10_compares_37 ?_
      exact e_ireturn dX10_compares_38 rfl ⟨_, rfl, hq⟩
  · rw [if_neg c] at hq
    refine e_iload 0 dX10_compares_25 rfl ?_
    exact e_ireturn dX10_compares_27 rfl ⟨_, rfl, hq⟩

def vX10_low (I : MI) (R : MR) (x0 : Nat) (x1 : Int) : Int := (vX10_degree I R x0 x1 0)
def pX10_low (S : Sh) (I : MI) (R : MR) (x0 : Nat) (x1 : Int) : Prop := (sT S x0 = 10 ∧ ((pX10_degree S I R x0 x1 0) ∧ True))
set_option maxRecDepth 100000 in
set_option maxHeartbeats 4000000 in
theorem sX10_low {G : Gl} {S : Sh} {I : MI} {R : MR} {Q : Sh → MI → MR → Int → Prop} {x0 : Nat} {x1 : Int} (hp : pX10_low S I R x0 x1) (hq : Q S I R (vX10_low I R x0 x1)) : CI G MX10_low [vR x0, vI x1] S I R Q := by
  show E G MX10_low 0 [(0, vR x0), (1, vI x1)] [] S I R (qI Q)
  unfold vX10_low at hq
  unfold pX10_low at hp
  refine e_aload_n 0 dX10_low_0 rfl ?_
  refine e_iload_n 1 dX10_low_1 rfl ?_
  refine e_iconst dX10_low_2 (by unfold InR; decide) ?_
  have o1 := hp.1
  replace hp := hp.2
  have o2 := hp.1
  replace hp := hp.2
  refine i_VI (μ' := MX10_degree) (ci := 9) (r := x0) (as := [vI x1, vI 0]) (st := []) rfl dX10_low_3 mOKX10_degree ⟨mlX10_79, imX10_degree, seX10_degree⟩ (by decide) (Nat.le_of_ble_eq_true rfl) rfl (Nat.le_of_ble_eq_true rfl) ⟨by decide, rfl⟩ o1 (sX10_degree o2 ?_)
  exact e_ireturn dX10_low_6 rfl ⟨_, rfl, hq⟩

def vX10_high (I : MI) (R : MR) (x0 : Nat) (x1 : Int) : Int := (vX10_degree I R x0 x1 (w32 ((I (R x0 4) (Int.toNat x1)) - 1)))
def pX10_high (S : Sh) (I : MI) (R : MR) (x0 : Nat) (x1 : Int) : Prop := (sT S x0 = 10 ∧ (sT S (R x0 4) = 21 ∧ (((0 : Int) ≤ x1 ∧ x1 < (sL S (R x0 4) : Int)) ∧ ((pX10_degree S I R x0 x1 (w32 ((I (R x0 4) (Int.toNat x1)) - 1))) ∧ True))))
set_option maxRecDepth 100000 in
set_option maxHeartbeats 4000000 in
theorem sX10_high {G : Gl} {S : Sh} {I : MI} {R : MR} {Q : Sh → MI → MR → Int → Prop} {x0 : Nat} {x1 : Int} (hp : pX10_high S I R x0 x1) (hq : Q S I R (vX10_high I R x0 x1)) : CI G MX10_high [vR x0, vI x1] S I R Q := by
  show E G MX10_high 0 [(0, vR x0), (1, vI x1)] [] S I R (qI Q)
  unfold vX10_high at hq
  unfold pX10_high at hp
  refine e_aload_n 0 dX10_high_0 rfl ?_
  refine e_iload_n 1 dX10_high_1 rfl ?_
  refine e_aload_n 0 dX10_high_2 rfl ?_
  have o1 := hp.1
  replace hp := hp.2
  refine e_getR dX10_high_3 flX10_20 rfl o1 ?_
  refine e_iload_n 1 dX10_high_6 rfl ?_
  have o2 := hp.1
  replace hp := hp.2
  have o3 := hp.1
  replace hp := hp.2
  refine e_iald dX10_high_7 o2 o3 ?_
  refine e_iconst dX10_high_8 (by unfold InR; decide) ?_
  refine e_isub dX10_high_9 ?_
  have o4 := hp.1
  replace hp := hp.2
  refine i_VI (μ' := MX10_degree) (ci := 9) (r := x0) (as := [vI x1, vI (w32 ((I (R x0 4) (Int.toNat x1)) - 1))]) (st := []) rfl dX10_high_10 mOKX10_degree ⟨mlX10_79, imX10_degree, seX10_degree⟩ (by decide) (Nat.le_of_ble_eq_true rfl) rfl (Nat.le_of_ble_eq_true rfl) ⟨by decide, rfl⟩ o1 (sX10_degree o4 ?_)
  exact e_ireturn dX10_high_13 rfl ⟨_, rfl, hq⟩

def vX10_ecart (I : MI) (R : MR) (x0 : Nat) (x1 : Int) : Int := (w32 ((vX10_high I R x0 x1) - (vX10_low I R x0 x1)))
def pX10_ecart (S : Sh) (I : MI) (R : MR) (x0 : Nat) (x1 : Int) : Prop := (sT S x0 = 10 ∧ ((pX10_high S I R x0 x1) ∧ ((pX10_low S I R x0 x1) ∧ True)))
set_option maxRecDepth 100000 in
set_option maxHeartbeats 4000000 in
theorem sX10_ecart {G : Gl} {S : Sh} {I : MI} {R : MR} {Q : Sh → MI → MR → Int → Prop} {x0 : Nat} {x1 : Int} (hp : pX10_ecart S I R x0 x1) (hq : Q S I R (vX10_ecart I R x0 x1)) : CI G MX10_ecart [vR x0, vI x1] S I R Q := by
  show E G MX10_ecart 0 [(0, vR x0), (1, vI x1)] [] S I R (qI Q)
  unfold vX10_ecart at hq
  unfold pX10_ecart at hp
  refine e_aload_n 0 dX10_ecart_0 rfl ?_
  refine e_iload_n 1 dX10_ecart_1 rfl ?_
  have o1 := hp.1
  replace hp := hp.2
  have o2 := hp.1
  replace hp := hp.2
  refine i_VI (μ' := MX10_high) (ci := 9) (r := x0) (as := [vI x1]) (st := []) rfl dX10_ecart_2 mOKX10_high ⟨mlX10_82, imX10_high, seX10_high⟩ (by decide) (Nat.le_of_ble_eq_true rfl) rfl (Nat.le_of_ble_eq_true rfl) ⟨by decide, rfl⟩ o1 (sX10_high o2 ?_)
  refine e_aload_n 0 dX10_ecart_5 rfl ?_
  refine e_iload_n 1 dX10_ecart_6 rfl ?_
  have o3 := hp.1
  replace hp := hp.2
  refine i_VI (μ' := MX10_low) (ci := 9) (r := x0) (as := [vI x1]) (st := [vI (vX10_high I R x0 x1)]) rfl dX10_ecart_7 mOKX10_low ⟨mlX10_86, imX10_low, seX10_low⟩ (by decide) (Nat.le_of_ble_eq_true rfl) rfl (Nat.le_of_ble_eq_true rfl) ⟨by decide, rfl⟩ o1 (sX10_low o3 ?_)
  refine e_isub dX10_ecart_10 ?_
  exact e_ireturn dX10_ecart_11 rfl ⟨_, rfl, hq⟩

def LX10_copies_14 (G : Gl) (x0 : Nat) (x1 : Int) (x2 : Int) (x3 : Int) (S : Sh) (I : MI) (R : MR) (Q : Sh → MI → MR → Prop) : Prop := E G MX10_copies 14 [(0, vR x0), (1, vI x1), (2, vI x2), (3, vI x3)] [] S I R (qV Q)
def LX10_copies_49 (G : Gl) (x0 : Nat) (x1 : Int) (x2 : Int) (x3 : Int) (x4 : Int) (S : Sh) (I : MI) (R : MR) (Q : Sh → MI → MR → Prop) : Prop := E G MX10_copies 49 [(0, vR x0), (1, vI x1), (2, vI x2), (3, vI x3), (4, vI x4)] [] S I R (qV Q)
set_option maxRecDepth 100000 in
set_option maxHeartbeats 4000000 in
theorem bX10_copies {G : Gl} {S : Sh} {I : MI} {R : MR} {Q : Sh → MI → MR → Prop} {x0 : Nat} {x1 : Int} {x2 : Int} (h : (sT S x0 = 10 ∧ (sT S (R x0 4) = 21 ∧ (((0 : Int) ≤ x1 ∧ x1 < (sL S (R x0 4) : Int)) ∧ (((0 : Int) ≤ x2 ∧ x2 < (sL S (R x0 4) : Int)) ∧ (∀ I11, I11 = up2 I (R x0 4) (Int.toNat x2) (I (R x0 4) (Int.toNat x1)) → LX10_copies_14 G x0 x1 x2 0 S I11 R Q)))))) : CV G MX10_copies [vR x0, vI x1, vI x2] S I R Q := by
  show E G MX10_copies 0 [(0, vR x0), (1, vI x1), (2, vI x2)] [] S I R (qV Q)
  refine e_aload_n 0 dX10_copies_0 rfl ?_
  have o1 := h.1
  replace h := h.2
  refine e_getR dX10_copies_1 flX10_20 rfl o1 ?_
  refine e_iload_n 2 dX10_copies_4 rfl ?_
  refine e_aload_n 0 dX10_copies_5 rfl ?_
  refine e_getR dX10_copies_6 flX10_20 rfl o1 ?_
  refine e_iload_n 1 dX10_copies_9 rfl ?_
  have o2 := h.1
  replace h := h.2
  have o3 := h.1
  replace h := h.2
  refine e_iald dX10_copies_10 o2 o3 ?_
  have o4 := h.1
  replace h := h.2
  obtain ⟨I11, eI11⟩ : ∃ z : MI, z = up2 I (R x0 4) (Int.toNat x2) (I (R x0 4) (Int.toNat x1)) := ⟨_, rfl⟩
  replace h := h I11 eI11
  refine e_iast dX10_copies_11 o2 o4 (eqI eI11 ?_)
  refine e_iconst dX10_copies_12 (by unfold InR; decide) ?_
  refine e_istore_n (ls2 := [(3, vI 0), (0, vR x0), (1, vI x1), (2, vI x2)]) dX10_copies_13 (by decide) rfl ?_
  exact e_sub (ls2 := [(0, vR x0), (1, vI x1), (2, vI x2), (3, vI 0)]) [1, 2, 3, 0] rfl h
set_option maxRecDepth 100000 in
set_option maxHeartbeats 4000000 in
theorem bX10_copies_14 {G : Gl} {S : Sh} {I : MI} {R : MR} {Q : Sh → MI → MR → Prop} {x0 : Nat} {x1 : Int} {x2 : Int} {x3 : Int} (h : (sT S x0 = 10 ∧ (sT S (R x0 4) = 21 ∧ (((0 : Int) ≤ x1 ∧ x1 < (sL S (R x0 4) : Int)) ∧ (((I (R x0 4) (Int.toNat x1)) ≤ x3 → Q S I R) ∧ (¬ ((I (R x0 4) (Int.toNat x1)) ≤ x3) → (sT S (R x0 5) = 21 ∧ (((0 : Int) ≤ (vX10_at x0 x1 x3) ∧ (vX10_at x0 x1 x3) < (sL S (R x0 5) : Int)) ∧ (((0 : Int) ≤ (vX10_at x0 x2 x3) ∧ (vX10_at x0 x2 x3) < (sL S (R x0 5) : Int)) ∧ (∀ I45, I45 = up2 I (R x0 5) (Int.toNat (vX10_at x0 x2 x3)) (I (R x0 5) (Int.toNat (vX10_at x0 x1 x3))) → LX10_copies_49 G x0 x1 x2 x3 0 S I45 R Q)))))))))) : LX10_copies_14 G x0 x1 x2 x3 S I R Q := by
  show E G MX10_copies 14 [(0, vR x0), (1, vI x1), (2, vI x2), (3, vI x3)] [] S I R (qV Q)
  refine e_iload_n 3 dX10_copies_14 rfl ?_
  refine e_aload_n 0 dX10_copies_15 rfl ?_
  have o5 := h.1
  replace h := h.2
  refine e_getR dX10_copies_16 flX10_20 rfl o5 ?_
  refine e_iload_n 1 dX10_copies_19 rfl ?_
  have o6 := h.1
  replace h := h.2
  have o7 := h.1
  replace h := h.2
  refine e_iald dX10_copies_20 o6 o7 ?_
  refine e_icmp_ge (tgt := 91) dX10_copies_21 (by decide) (fun c => ?_) (fun c => ?_)
  · replace h := h.1 c
    exact e_return dX10_copies_91 rfl ⟨rfl, h⟩
  · replace h := h.2 c
    refine e_aload_n 0 dX10_copies_24 rfl ?_
    refine e_getR dX10_copies_25 flX10_23 rfl o5 ?_
    refine e_aload_n 0 dX10_copies_28 rfl ?_
    refine e_iload_n 2 dX10_copies_29 rfl ?_
    refine e_iload_n 3 dX10_copies_30 rfl ?_
    refine i_VI (μ' := MX10_at) (ci := 9) (r := x0) (as := [vI x2, vI x3]) (st := [vR (R x0 5)]) rfl dX10_copies_31 mOKX10_at ⟨mlX10_68, imX10_at, seX10_at⟩ (by decide) (Nat.le_of_ble_eq_true rfl) rfl (Nat.le_of_ble_eq_true rfl) ⟨by decide, rfl⟩ o5 (sX10_at ?_)
    refine e_aload_n 0 dX10_copies_34 rfl ?_
    refine e_getR dX10_copies_35 flX10_23 rfl o5 ?_
    refine e_aload_n 0 dX10_copies_38 rfl ?_
    refine e_iload_n 1 dX10_copies_39 rfl ?_
    refine e_iload_n 3 dX10_copies_40 rfl ?_
    refine i_VI (μ' := MX10_at) (ci := 9) (r := x0) (as := [vI x1, vI x3]) (st := [vR (R x0 5), vI (vX10_at x0 x2 x3), vR (R x0 5)]) rfl dX10_copies_41 mOKX10_at ⟨mlX10_68, imX10_at, seX10_at⟩ (by decide) (Nat.le_of_ble_eq_true rfl) rfl (Nat.le_of_ble_eq_true rfl) ⟨by decide, rfl⟩ o5 (sX10_at ?_)
    have o8 := h.1
    replace h := h.2
    have o9 := h.1
    replace h := h.2
    refine e_iald dX10_copies_44 o8 o9 ?_
    have o10 := h.1
    replace h := h.2
    obtain ⟨I45, eI45⟩ : ∃ z : MI, z = up2 I (R x0 5) (Int.toNat (vX10_at x0 x2 x3)) (I (R x0 5) (Int.toNat (vX10_at x0 x1 x3))) := ⟨_, rfl⟩
    replace h := h I45 eI45
    refine e_iast dX10_copies_45 o8 o10 (eqI eI45 ?_)
    refine e_iconst dX10_copies_46 (by unfold InR; decide) ?_
    refine e_istore (ls2 := [(4, vI 0), (0, vR x0), (1, vI x1), (2, vI x2), (3, vI x3)]) dX10_copies_47 (by decide) rfl ?_
    exact e_sub (ls2 := [(0, vR x0), (1, vI x1), (2, vI x2), (3, vI x3), (4, vI 0)]) [1, 2, 3, 4, 0] rfl h
set_option maxRecDepth 100000 in
set_option maxHeartbeats 4000000 in
theorem bX10_copies_49 {G : Gl} {S : Sh} {I : MI} {R : MR} {Q : Sh → MI → MR → Prop} {x0 : Nat} {x1 : Int} {x2 : Int} {x3 : Int} {x4 : Int} (h : ((3 ≤ x4 → LX10_copies_14 G x0 x1 x2 (w32 (x3 + 1)) S I R Q) ∧ (¬ (3 ≤ x4) → (sT S x0 = 10 ∧ ((pX10_power S R x0 x1 x3 x4) ∧ (sT S (R x0 6) = 21 ∧ (((0 : Int) ≤ (w32 ((w32 (3 * (vX10_at x0 x2 x3))) + x4)) ∧ (w32 ((w32 (3 * (vX10_at x0 x2 x3))) + x4)) < (sL S (R x0 6) : Int)) ∧ (∀ I78, I78 = up2 I (R x0 6) (Int.toNat (w32 ((w32 (3 * (vX10_at x0 x2 x3))) + x4))) (vX10_power I R x0 x1 x3 x4) → LX10_copies_49 G x0 x1 x2 x3 (w32 (x4 + 1)) S I78 R Q)))))))) : LX10_copies_49 G x0 x1 x2 x3 x4 S I R Q := by
  show E G MX10_copies 49 [(0, vR x0), (1, vI x1), (2, vI x2), (3, vI x3), (4, vI x4)] [] S I R (qV Q)
  refine e_iload 4 dX10_copies_49 rfl ?_
  refine e_iconst dX10_copies_51 (by unfold InR; decide) ?_
  refine e_icmp_ge (tgt := 85) dX10_copies_52 (by decide) (fun c => ?_) (fun c => ?_)
  · replace h := h.1 c
    refine e_iinc (ls2 := [(3, vI (w32 (x3 + 1))), (0, vR x0), (1, vI x1), (2, vI x2), (4, vI x4)]) 3 dX10_copies_85 rfl (by decide) rfl ?_
    refine e_goto (tgt := 14) dX10_copies_88 (by decide) ?_
    exact e_sub (ls2 := [(0, vR x0), (1, vI x1), (2, vI x2), (3, vI (w32 (x3 + 1)))]) [1, 2, 3, 0] rfl h
  · replace h := h.2 c
    refine e_aload_n 0 dX10_copies_55 rfl ?_
    have o11 := h.1
    replace h := h.2
    refine e_getR dX10_copies_56 flX10_27 rfl o11 ?_
    refine e_iconst dX10_copies_59 (by unfold InR; decide) ?_
    refine e_aload_n 0 dX10_copies_60 rfl ?_
    refine e_iload_n 2 dX10_copies_61 rfl ?_
    refine e_iload_n 3 dX10_copies_62 rfl ?_
    refine i_VI (μ' := MX10_at) (ci := 9) (r := x0) (as := [vI x2, vI x3]) (st := [vI 3, vR (R x0 6)]) rfl dX10_copies_63 mOKX10_at ⟨mlX10_68, imX10_at, seX10_at⟩ (by decide) (Nat.le_of_ble_eq_true rfl) rfl (Nat.le_of_ble_eq_true rfl) ⟨by decide, rfl⟩ o11 (sX10_at ?_)
    refine e_imul dX10_copies_66 ?_
    refine e_iload 4 dX10_copies_67 rfl ?_
    refine e_iadd dX10_copies_69 ?_
    refine e_aload_n 0 dX10_copies_70 rfl ?_
    refine e_iload_n 1 dX10_copies_71 rfl ?_
    refine e_iload_n 3 dX10_copies_72 rfl ?_
    refine e_iload 4 dX10_copies_73 rfl ?_
    have o12 := h.1
    replace h := h.2
    refine i_VI (μ' := MX10_power) (ci := 9) (r := x0) (as := [vI x1, vI x3, vI x4]) (st := [vI (w32 ((w32 (3 * (vX10_at x0 x2 x3))) + x4)), vR (R x0 6)]) rfl dX10_copies_75 mOKX10_power ⟨mlX10_72, imX10_power, seX10_power⟩ (by decide) (Nat.le_of_ble_eq_true rfl) rfl (Nat.le_of_ble_eq_true rfl) ⟨by decide, rfl⟩ o11 (sX10_power o12 ?_)
    have o13 := h.1
    replace h := h.2
    have o14 := h.1
    replace h := h.2
    obtain ⟨I78, eI78⟩ : ∃ z : MI, z = up2 I (R x0 6) (Int.toNat (w32 ((w32 (3 * (vX10_at x0 x2 x3))) + x4))) (vX10_power I R x0 x1 x3 x4) := ⟨_, rfl⟩
    replace h := h I78 eI78
    refine e_iast dX10_copies_78 o13 o14 (eqI eI78 ?_)
    refine e_iinc (ls2 := [(4, vI (w32 (x4 + 1))), (0, vR x0), (1, vI x1), (2, vI x2), (3, vI x3)]) 4 dX10_copies_79 rfl (by decide) rfl ?_
    refine e_goto (tgt := 49) dX10_copies_82 (by decide) ?_
    exact e_sub (ls2 := [(0, vR x0), (1, vI x1), (2, vI x2), (3, vI x3), (4, vI (w32 (x4 + 1)))]) [1, 2, 3, 4, 0] rfl h

def vX10_heapCompares (I : MI) (R : MR) (x0 : Nat) (x1 : Int) (x2 : Int) (x3 : Int) (x4 : Int) : Int := (vX10_compares I R x0 (I (R x0 8) (Int.toNat (w32 (3 * x1)))) (I (R x0 8) (Int.toNat (w32 ((w32 (3 * x1)) + 1)))) (I (R x0 8) (Int.toNat (w32 ((w32 (3 * x1)) + 2)))) x2 x3 x4)
def pX10_heapCompares (S : Sh) (I : MI) (R : MR) (x0 : Nat) (x1 : Int) (x2 : Int) (x3 : Int) (x4 : Int) : Prop := (sT S x0 = 10 ∧ (sT S (R x0 8) = 21 ∧ (((0 : Int) ≤ (w32 (3 * x1)) ∧ (w32 (3 * x1)) < (sL S (R x0 8) : Int)) ∧ (((0 : Int) ≤ (w32 ((w32 (3 * x1)) + 1)) ∧ (w32 ((w32 (3 * x1)) + 1)) < (sL S (R x0 8) : Int)) ∧ (((0 : Int) ≤ (w32 ((w32 (3 * x1)) + 2)) ∧ (w32 ((w32 (3 * x1)) + 2)) < (sL S (R x0 8) : Int)) ∧ ((pX10_compares S I R x0 (I (R x0 8) (Int.toNat (w32 (3 * x1)))) (I (R x0 8) (Int.toNat (w32 ((w32 (3 * x1)) + 1)))) (I (R x0 8) (Int.toNat (w32 ((w32 (3 * x1)) + 2)))) x2 x3 x4) ∧ True))))))
set_option maxRecDepth 100000 in
set_option maxHeartbeats 4000000 in
theorem sX10_heapCompares {G : Gl} {S : Sh} {I : MI} {R : MR} {Q : Sh → MI → MR → Int → Prop} {x0 : Nat} {x1 : Int} {x2 : Int} {x3 : Int} {x4 : Int} (hp : pX10_heapCompares S I R x0 x1 x2 x3 x4) (hq : Q S I R (vX10_heapCompares I R x0 x1 x2 x3 x4)) : CI G MX10_heapCompares [vR x0, vI x1, vI x2, vI x3, vI x4] S I R Q := by
  show E G MX10_heapCompares 0 [(0, vR x0), (1, vI x1), (2, vI x2), (3, vI x3), (4, vI x4)] [] S I R (qI Q)
  unfold vX10_heapCompares at hq
  unfold pX10_heapCompares at hp
  refine e_aload_n 0 dX10_heapCompares_0 rfl ?_
  refine e_aload_n 0 dX10_heapCompares_1 rfl ?_
  have o1 := hp.1
  replace hp := hp.2
  refine e_getR dX10_heapCompares_2 flX10_33 rfl o1 ?_
  refine e_iconst dX10_heapCompares_5 (by unfold InR; decide) ?_
  refine e_iload_n 1 dX10_heapCompares_6 rfl ?_
  refine e_imul dX10_heapCompares_7 ?_
  have o2 := hp.1
  replace hp := hp.2
  have o3 := hp.1
  replace hp := hp.2
  refine e_iald dX10_heapCompares_8 o2 o3 ?_
  refine e_aload_n 0 dX10_heapCompares_9 rfl ?_
  refine e_getR dX10_heapCompares_10 flX10_33 rfl o1 ?_
  refine e_iconst dX10_heapCompares_13 (by unfold InR; decide) ?_
  refine e_iload_n 1 dX10_heapCompares_14 rfl ?_
  refine e_imul dX10_heapCompares_15 ?_
  refine e_iconst dX10_heapCompares_16 (by unfold InR; decide) ?_
  refine e_iadd dX10_heapCompares_17 ?_
  have o4 := hp.1
  replace hp := hp.2
  refine e_iald dX10_heapCompares_18 o2 o4 ?_
  refine e_aload_n 0 dX10_heapCompares_19 rfl ?_
  refine e_getR dX10_heapCompares_20 flX10_33 rfl o1 ?_
  refine e_iconst dX10_heapCompares_23 (by unfold InR; decide) ?_
  refine e_iload_n 1 dX10_heapCompares_24 rfl ?_
  refine e_imul dX10_heapCompares_25 ?_
  refine e_iconst dX10_heapCompares_26 (by unfold InR; decide) ?_
  refine e_iadd dX10_heapCompares_27 ?_
  have o5 := hp.1
  replace hp := hp.2
  refine e_iald dX10_heapCompares_28 o2 o5 ?_
  refine e_iload_n 2 dX10_heapCompares_29 rfl ?_
  refine e_iload_n 3 dX10_heapCompares_30 rfl ?_
  refine e_iload 4 dX10_heapCompares_31 rfl ?_
  have o6 := hp.1
  replace hp := hp.2
  refine i_VI (μ' := MX10_compares) (ci := 9) (r := x0) (as := [vI (I (R x0 8) (Int.toNat (w32 (3 * x1)))), vI (I (R x0 8) (Int.toNat (w32 ((w32 (3 * x1)) + 1)))), vI (I (R x0 8) (Int.toNat (w32 ((w32 (3 * x1)) + 2)))), vI x2, vI x3, vI x4]) (st := []) rfl dX10_heapCompares_33 mOKX10_compares ⟨mlX10_89, imX10_compares, seX10_compares⟩ (by decide) (Nat.le_of_ble_eq_true rfl) rfl (Nat.le_of_ble_eq_true rfl) ⟨by decide, rfl⟩ o1 (sX10_compares o6 ?_)
  exact e_ireturn dX10_heapCompares_36 rfl ⟨_, rfl, hq⟩

def LX10_heaps_14 (G : Gl) (x0 : Nat) (x1 : Int) (x2 : Int) (x3 : Int) (x4 : Int) (x5 : Int) (x6 : Int) (S : Sh) (I : MI) (R : MR) (Q : Sh → MI → MR → Prop) : Prop := E G MX10_heaps 14 [(0, vR x0), (1, vI x1), (2, vI x2), (3, vI x3), (4, vI x4), (5, vI x5), (6, vI x6)] [] S I R (qV Q)
def LX10_heaps_109 (G : Gl) (x0 : Nat) (x1 : Int) (x2 : Int) (x3 : Int) (x4 : Int) (x5 : Int) (x7 : Int) (S : Sh) (I : MI) (R : MR) (Q : Sh → MI → MR → Prop) : Prop := E G MX10_heaps 109 [(0, vR x0), (1, vI x1), (2, vI x2), (3, vI x3), (4, vI x4), (5, vI x5), (7, vI x7)] [] S I R (qV Q)
def LX10_heaps_135 (G : Gl) (x0 : Nat) (x1 : Int) (x2 : Int) (x3 : Int) (x4 : Int) (x5 : Int) (x7 : Int) (x8 : Int) (S : Sh) (I : MI) (R : MR) (Q : Sh → MI → MR → Prop) : Prop := E G MX10_heaps 135 [(0, vR x0), (1, vI x1), (2, vI x2), (3, vI x3), (4, vI x4), (5, vI x5), (7, vI x7), (8, vI x8)] [] S I R (qV Q)
set_option maxRecDepth 100000 in
set_option maxHeartbeats 4000000 in
theorem bX10_heaps {G : Gl} {S : Sh} {I : MI} {R : MR} {Q : Sh → MI → MR → Prop} {x0 : Nat} {x1 : Int} {x2 : Int} {x3 : Int} {x4 : Int} (h : ((x1 ≠ 0 → (sT S x0 = 10 ∧ LX10_heaps_14 G x0 x1 x2 x3 x4 0 (I x0 9) S I R Q)) ∧ (¬ (x1 ≠ 0) → Q S I R))) : CV G MX10_heaps [vR x0, vI x1, vI x2, vI x3, vI x4] S I R Q := by
  show E G MX10_heaps 0 [(0, vR x0), (1, vI x1), (2, vI x2), (3, vI x3), (4, vI x4)] [] S I R (qV Q)
  refine e_iload_n 1 dX10_heaps_0 rfl ?_
  refine e_if_ne (tgt := 5) dX10_heaps_1 (by decide) (fun c => ?_) (fun c => ?_)
  · replace h := h.1 c
    refine e_iconst dX10_heaps_5 (by unfold InR; decide) ?_
    refine e_istore (ls2 := [(5, vI 0), (0, vR x0), (1, vI x1), (2, vI x2), (3, vI x3), (4, vI x4)]) dX10_heaps_6 (by decide) rfl ?_
    refine e_aload_n 1 dX10_heaps_8 rfl ?_
    have o1 := h.1
    replace h := h.2
    refine e_getI dX10_heaps_9 flX10_93 rfl o1 ?_
    refine e_istore (ls2 := [(6, vI (I x0 9)), (5, vI 0), (0, vR x0), (1, vI x1), (2, vI x2), (3, vI x3), (4, vI x4)]) dX10_heaps_12 (by decide) rfl ?_
    exact e_sub (ls2 := [(0, vR x0), (1, vI x1), (2, vI x2), (3, vI x3), (4, vI x4), (5, vI 0), (6, vI (I x0 9))]) [2, 3, 4, 5, 6, 1, 0] rfl h
  · replace h := h.2 c
    exact e_return dX10_heaps_4 rfl ⟨rfl, h⟩
set_option maxRecDepth 100000 in
set_option maxHeartbeats 4000000 in
theorem bX10_heaps_14 {G : Gl} {S : Sh} {I : MI} {R : MR} {Q : Sh → MI → MR → Prop} {x0 : Nat} {x1 : Int} {x2 : Int} {x3 : Int} {x4 : Int} {x5 : Int} {x6 : Int} (h : ((x6 ≤ x5 → (sT S x0 = 10 ∧ (((I x0 9) ≤ x5 → LX10_heaps_109 G x0 x1 x2 x3 x4 x5 (I x0 9) S I R Q) ∧ (¬ ((I x0 9) ≤ x5) → ((pX10_heapCompares S I R x0 x5 x2 x3 x4) ∧ (((vX10_heapCompares I R x0 x5 x2 x3 x4) ≠ 0 → LX10_heaps_109 G x0 x1 x2 x3 x4 x5 (I x0 9) S I R Q) ∧ (¬ ((vX10_heapCompares I R x0 x5 x2 x3 x4) ≠ 0) → (sT S (R x0 7) = 21 ∧ (((0 : Int) ≤ x5 ∧ x5 < (sL S (R x0 7) : Int)) ∧ ((I x0 2) ≠ 0 ∧ (∀ I101, I101 = up2 I (R x0 7) (Int.toNat x5) (irem (w32 ((I (R x0 7) (Int.toNat x5)) + x1)) (I x0 2)) → Q S I101 R))))))))))) ∧ (¬ (x6 ≤ x5) → (sT S x0 = 10 ∧ ((pX10_heapCompares S I R x0 (idiv (w32 (x5 + x6)) 2) x2 x3 x4) ∧ ((0 ≤ (vX10_heapCompares I R x0 (idiv (w32 (x5 + x6)) 2) x2 x3 x4) → LX10_heaps_14 G x0 x1 x2 x3 x4 x5 (idiv (w32 (x5 + x6)) 2) S I R Q) ∧ (¬ (0 ≤ (vX10_heapCompares I R x0 (idiv (w32 (x5 + x6)) 2) x2 x3 x4)) → LX10_heaps_14 G x0 x1 x2 x3 x4 (w32 ((idiv (w32 (x5 + x6)) 2) + 1)) x6 S I R Q))))))) : LX10_heaps_14 G x0 x1 x2 x3 x4 x5 x6 S I R Q := by
  show E G MX10_heaps 14 [(0, vR x0), (1, vI x1), (2, vI x2), (3, vI x3), (4, vI x4), (5, vI x5), (6, vI x6)] [] S I R (qV Q)
  refine e_iload 5 dX10_heaps_14 rfl ?_
  refine e_iload 6 dX10_heaps_16 rfl ?_
  refine e_icmp_ge (tgt := 59) dX10_heaps_18 (by decide) (fun c => ?_) (fun c => ?_)
  · replace h := h.1 c
    refine e_iload 5 dX10_heaps_59 rfl ?_
    refine e_aload_n 0 dX10_heaps_61 rfl ?_
    have o2 := h.1
    replace h := h.2
    refine e_getI dX10_heaps_62 flX10_93 rfl o2 ?_
    refine e_icmp_ge (tgt := 103) dX10_heaps_65 (by decide) (fun c => ?_) (fun c => ?_)
    · replace h := h.1 c
      refine e_aload_n 0 dX10_heaps_103 rfl ?_
      refine e_getI dX10_heaps_104 flX10_93 rfl o2 ?_
      refine e_istore (ls2 := [(7, vI (I x0 9)), (0, vR x0), (1, vI x1), (2, vI x2), (3, vI x3), (4, vI x4), (5, vI x5), (6, vI x6)]) dX10_heaps_107 (by decide) rfl ?_
      exact e_sub (ls2 := [(0, vR x0), (1, vI x1), (2, vI x2), (3, vI x3), (4, vI x4), (5, vI x5), (7, vI (I x0 9))]) [1, 2, 3, 4, 5, 6, 0] rfl h
    · replace h := h.2 c
      refine e_aload_n 0 dX10_heaps_68 rfl ?_
      refine e_iload 5 dX10_heaps_69 rfl ?_
      refine e_iload_n 2 dX10_heaps_71 rfl ?_
      refine e_iload_n 3 dX10_heaps_72 rfl ?_
      refine e_iload 4 dX10_heaps_73 rfl ?_
      have o3 := h.1
      replace h := h.2
      refine i_VI (μ' := MX10_heapCompares) (ci := 9) (r := x0) (as := [vI x5, vI x2, vI x3, vI x4]) (st := []) rfl dX10_heaps_75 mOKX10_heapCompares ⟨mlX10_96, imX10_heapCompares, seX10_heapCompares⟩ (by decide) (Nat.le_of_ble_eq_true rfl) rfl (Nat.le_of_ble_eq_true rfl) ⟨by decide, rfl⟩ o2 (sX10_heapCompares o3 ?_)
      refine e_if_ne (tgt := 103) dX10_heaps_78 (by decide) (fun c => ?_) (fun c => ?_)
      · replace h := h.1 c
        refine e_aload_n 0 dX10_heaps_103 rfl ?_
        refine e_getI dX10_heaps_104 flX10_93 rfl o2 ?_
        refine e_istore (ls2 := [(7, vI (I x0 9)), (0, vR x0), (1, vI x1), (2, vI x2), (3, vI x3), (4, vI x4), (5, vI x5), (6, vI x6)]) dX10_heaps_107 (by decide) rfl ?_
        exact e_sub (ls2 := [(0, vR x0), (1, vI x1), (2, vI x2), (3, vI x3), (4, vI x4), (5, vI x5), (7, vI (I x0 9))]) [1, 2, 3, 4, 5, 6, 0] rfl h
      · replace h := h.2 c
        refine e_aload_n 0 dX10_heaps_81 rfl ?_
        refine e_getR dX10_heaps_82 flX10_30 rfl o2 ?_
        refine e_iload 5 dX10_heaps_85 rfl ?_
        refine e_aload_n 0 dX10_heaps_87 rfl ?_
        refine e_getR dX10_heaps_88 flX10_30 rfl o2 ?_
        refine e_iload 5 dX10_heaps_91 rfl ?_
        have o4 := h.1
        replace h := h.2
        have o5 := h.1
        replace h := h.2
        refine e_iald dX10_heaps_93 o4 o5 ?_
        refine e_iload_n 1 dX10_heaps_94 rfl ?_
        refine e_iadd dX10_heaps_95 ?_
        refine e_aload_n 0 dX10_heaps_96 rfl ?_
        refine e_getI dX10_heaps_97 flX10_13 rfl o2 ?_
        have o6 := h.1
        replace h := h.2
        refine e_irem dX10_heaps_100 o6 ?_
        obtain ⟨I101, eI101⟩ : ∃ z : MI, z = up2 I (R x0 7) (Int.toNat x5) (irem (w32 ((I (R x0 7) (Int.toNat x5)) + x1)) (I x0 2)) := ⟨_, rfl⟩
        replace h := h I101 eI101
        refine e_iast dX10_heaps_101 o4 o5 (eqI eI101 ?_)
        exact e_return dX10_heaps_102 rfl ⟨rfl, h⟩
  · replace h := h.2 c
    refine e_iload 5 dX10_heaps_21 rfl ?_
    refine e_iload 6 dX10_heaps_23 rfl ?_
    refine e_iadd dX10_heaps_25 ?_
    refine e_iconst dX10_heaps_26 (by unfold InR; decide) ?_
    refine e_idiv dX10_heaps_27 (by decide) ?_
    refine e_istore (ls2 := [(7, vI (idiv (w32 (x5 + x6)) 2)), (0, vR x0), (1, vI x1), (2, vI x2), (3, vI x3), (4, vI x4), (5, vI x5), (6, vI x6)]) dX10_heaps_28 (by decide) rfl ?_
    refine e_aload_n 1 dX10_heaps_30 rfl ?_
    refine e_iload 0 dX10_heaps_31 rfl ?_
    refine e_iload_n 3 dX10_heaps_33 rfl ?_
    refine e_iload_n 4 dX10_heaps_34 rfl ?_
    refine e_iload 5 dX10_heaps_35 rfl ?_
    have o7 := h.1
    replace h := h.2
    have o8 := h.1
    replace h := h.2
    refine i_VI (μ' := MX10_heapCompares) (ci := 9) (r := x0) (as := [vI (idiv (w32 (x5 + x6)) 2), vI x2, vI x3, vI x4]) (st := []) rfl dX10_heaps_37 mOKX10_heapCompares ⟨mlX10_96, imX10_heapCompares, seX10_heapCompares⟩ (by decide) (Nat.le_of_ble_eq_true rfl) rfl (Nat.le_of_ble_eq_true rfl) ⟨by decide, rfl⟩ o7 (sX10_heapCompares o8 ?_)
    refine e_if_ge (tgt := 52) dX10_heaps_40 (by decide) (fun c => ?_) (fun c => ?_)
    · replace h := h.1 c
      refine e_iload 0 dX10_heaps_52 rfl ?_
      refine e_istore (ls2 := [(6, vI (idiv (w32 (x5 + x6)) 2)), (7, vI (idiv (w32 (x5 + x6)) 2)), (0, vR x0), (1, vI x1), (2, vI x2), (3, vI x3), (4, vI x4), (5, vI x5)]) dX10_heaps_54 (by decide) rfl ?_
      refine e_goto (tgt := 14) dX10_heaps_56 (by decide) ?_
      exact e_sub (ls2 := [(0, vR x0), (1, vI x1), (2, vI x2), (3, vI x3), (4, vI x4), (5, vI x5), (6, vI (idiv (w32 (x5 + x6)) 2))]) [2, 3, 4, 5, 6, 7, 0] rfl h
    · replace h := h.2 c
      refine e_iload 0 dX10_heaps_43 rfl ?_
      refine e_iconst dX10_heaps_45 (by unfold InR; decide) ?_
      refine e_iadd dX10_heaps_46 ?_
      refine e_istore (ls2 := [(5, vI (w32 ((idiv (w32 (x5 + x6)) 2) + 1))), (7, vI (idiv (w32 (x5 + x6)) 2)), (0, vR x0), (1, vI x1), (2, vI x2), (3, vI x3), (4, vI x4), (6, vI x6)]) dX10_heaps_47 (by decide) rfl ?_
      refine e_goto (tgt := 56) dX10_heaps_49 (by decide) ?_
      refine e_goto (tgt := 14) dX10_heaps_56 (by decide) ?_
      exact e_sub (ls2 := [(0, vR x0), (1, vI x1), (2, vI x2), (3, vI x3), (4, vI x4), (5, vI (w32 ((idiv (w32 (x5 + x6)) 2) + 1))), (6, vI x6)]) [2, 3, 4, 5, 6, 0, 7] rfl h
set_option maxRecDepth 100000 in
set_option maxHeartbeats 4000000 in
theorem bX10_heaps_109 {G : Gl} {S : Sh} {I : MI} {R : MR} {Q : Sh → MI → MR → Prop} {x0 : Nat} {x1 : Int} {x2 : Int} {x3 : Int} {x4 : Int} {x5 : Int} {x7 : Int} (h : ((x7 ≤ x5 → (sT S x0 = 10 ∧ (sT S (R x0 7) = 21 ∧ (((0 : Int) ≤ x5 ∧ x5 < (sL S (R x0 7) : Int)) ∧ (∀ I186, I186 = up2 I (R x0 7) (Int.toNat x5) x1 → (sT S (R x0 8) = 21 ∧ (((0 : Int) ≤ (w32 (3 * x5)) ∧ (w32 (3 * x5)) < (sL S (R x0 8) : Int)) ∧ (∀ I196, I196 = up2 I186 (R x0 8) (Int.toNat (w32 (3 * x5))) x2 → (((0 : Int) ≤ (w32 ((w32 (3 * x5)) + 1)) ∧ (w32 ((w32 (3 * x5)) + 1)) < (sL S (R x0 8) : Int)) ∧ (∀ I208, I208 = up2 I196 (R x0 8) (Int.toNat (w32 ((w32 (3 * x5)) + 1))) x3 → (((0 : Int) ≤ (w32 ((w32 (3 * x5)) + 2)) ∧ (w32 ((w32 (3 * x5)) + 2)) < (sL S (R x0 8) : Int)) ∧ (∀ I221, I221 = up2 I208 (R x0 8) (Int.toNat (w32 ((w32 (3 * x5)) + 2))) x4 → (∀ I229, I229 = up2 I221 x0 9 (w32 ((I221 x0 9) + 1)) → Q S I229 R))))))))))))) ∧ (¬ (x7 ≤ x5) → (sT S x0 = 10 ∧ (sT S (R x0 7) = 21 ∧ (((0 : Int) ≤ (w32 (x7 - 1)) ∧ (w32 (x7 - 1)) < (sL S (R x0 7) : Int)) ∧ (((0 : Int) ≤ x7 ∧ x7 < (sL S (R x0 7) : Int)) ∧ (∀ I131, I131 = up2 I (R x0 7) (Int.toNat x7) (I (R x0 7) (Int.toNat (w32 (x7 - 1)))) → LX10_heaps_135 G x0 x1 x2 x3 x4 x5 x7 0 S I131 R Q)))))))) : LX10_heaps_109 G x0 x1 x2 x3 x4 x5 x7 S I R Q := by
  show E G MX10_heaps 109 [(0, vR x0), (1, vI x1), (2, vI x2), (3, vI x3), (4, vI x4), (5, vI x5), (7, vI x7)] [] S I R (qV Q)
  refine e_iload 6 dX10_heaps_109 rfl ?_
  refine e_iload 5 dX10_heaps_111 rfl ?_
  refine e_icmp_le (tgt := 179) dX10_heaps_113 (by decide) (fun c => ?_) (fun c => ?_)
  · replace h := h.1 c
    refine e_aload_n 0 dX10_heaps_179 rfl ?_
    have o9 := h.1
    replace h := h.2
    refine e_getR dX10_heaps_180 flX10_30 rfl o9 ?_
    refine e_iload 5 dX10_heaps_183 rfl ?_
    refine e_iload_n 1 dX10_heaps_185 rfl ?_
    have o10 := h.1
    replace h := h.2
    have o11 := h.1
    replace h := h.2
    obtain ⟨I186, eI186⟩ : ∃ z : MI, z = up2 I (R x0 7) (Int.toNat x5) x1 := ⟨_, rfl⟩
    replace h := h I186 eI186
    refine e_iast dX10_heaps_186 o10 o11 (eqI eI186 ?_)
    refine e_aload_n 0 dX10_heaps_187 rfl ?_
    refine e_getR dX10_heaps_188 flX10_33 rfl o9 ?_
    refine e_iconst dX10_heaps_191 (by unfold InR; decide) ?_
    refine e_iload 5 dX10_heaps_192 rfl ?_
    refine e_imul dX10_heaps_194 ?_
    refine e_iload_n 2 dX10_heaps_195 rfl ?_
    have o12 := h.1
    replace h := h.2
    have o13 := h.1
    replace h := h.2
    obtain ⟨I196, eI196⟩ : ∃ z : MI, z = up2 I186 (R x0 8) (Int.toNat (w32 (3 * x5))) x2 := ⟨_, rfl⟩
    replace h := h I196 eI196
    refine e_iast dX10_heaps_196 o12 o13 (eqI eI196 ?_)
    refine e_aload_n 0 dX10_heaps_197 rfl ?_
    refine e_getR dX10_heaps_198 flX10_33 rfl o9 ?_
    refine e_iconst dX10_heaps_201 (by unfold InR; decide) ?_
    refine e_iload 5 dX10_heaps_202 rfl ?_
    refine e_imul dX10_heaps_204 ?_
    refine e_iconst dX10_heaps_205 (by unfold InR; decide) ?_
    refine e_iadd dX10_heaps_206 ?_
    refine e_iload_n 3 dX10_heaps_207 rfl ?_
    have o14 := h.1
    replace h := h.2
    obtain ⟨I208, eI208⟩ : ∃ z : MI, z = up2 I196 (R x0 8) (Int.toNat (w32 ((w32 (3 * x5)) + 1))) x3 := ⟨_, rfl⟩
    replace h := h I208 eI208
    refine e_iast dX10_heaps_208 o12 o14 (eqI eI208 ?_)
    refine e_aload_n 0 dX10_heaps_209 rfl ?_
    refine e_getR dX10_heaps_210 flX10_33 rfl o9 ?_
    refine e_iconst dX10_heaps_213 (by unfold InR; decide) ?_
    refine e_iload 5 dX10_heaps_214 rfl ?_
    refine e_imul dX10_heaps_216 ?_
    refine e_iconst dX10_heaps_217 (by unfold InR; decide) ?_
    refine e_iadd dX10_heaps_218 ?_
    refine e_iload 4 dX10_heaps_219 rfl ?_
    have o15 := h.1
    replace h := h.2
    obtain ⟨I221, eI221⟩ : ∃ z : MI, z = up2 I208 (R x0 8) (Int.toNat (w32 ((w32 (3 * x5)) + 2))) x4 := ⟨_, rfl⟩
    replace h := h I221 eI221
    refine e_iast dX10_heaps_221 o12 o15 (eqI eI221 ?_)
    refine e_aload_n 0 dX10_heaps_222 rfl ?_
    refine e_aload_n 0 dX10_heaps_223 rfl ?_
    refine e_getI dX10_heaps_224 flX10_93 rfl o9 ?_
    refine e_iconst dX10_heaps_227 (by unfold InR; decide) ?_
    refine e_iadd dX10_heaps_228 ?_
    obtain ⟨I229, eI229⟩ : ∃ z : MI, z = up2 I221 x0 9 (w32 ((I221 x0 9) + 1)) := ⟨_, rfl⟩
    replace h := h I229 eI229
    refine e_putI dX10_heaps_229 flX10_93 rfl (Or.inl rfl) o9 (eqI eI229 ?_)
    exact e_return dX10_heaps_232 rfl ⟨rfl, h⟩
  · replace h := h.2 c
    refine e_aload_n 0 dX10_heaps_116 rfl ?_
    have o16 := h.1
    replace h := h.2
    refine e_getR dX10_heaps_117 flX10_30 rfl o16 ?_
    refine e_iload 6 dX10_heaps_120 rfl ?_
    refine e_aload_n 0 dX10_heaps_122 rfl ?_
    refine e_getR dX10_heaps_123 flX10_30 rfl o16 ?_
    refine e_iload 6 dX10_heaps_126 rfl ?_
    refine e_iconst dX10_heaps_128 (by unfold InR; decide) ?_
    refine e_isub dX10_heaps_129 ?_
    have o17 := h.1
    replace h := h.2
    have o18 := h.1
    replace h := h.2
    refine e_iald dX10_heaps_130 o17 o18 ?_
    have o19 := h.1
    replace h := h.2
    obtain ⟨I131, eI131⟩ : ∃ z : MI, z = up2 I (R x0 7) (Int.toNat x7) (I (R x0 7) (Int.toNat (w32 (x7 - 1)))) := ⟨_, rfl⟩
    replace h := h I131 eI131
    refine e_iast dX10_heaps_131 o17 o19 (eqI eI131 ?_)
    refine e_iconst dX10_heaps_132 (by unfold InR; decide) ?_
    refine e_istore (ls2 := [(8, vI 0), (0, vR x0), (1, vI x1), (2, vI x2), (3, vI x3), (4, vI x4), (5, vI x5), (7, vI x7)]) dX10_heaps_133 (by decide) rfl ?_
    exact e_sub (ls2 := [(0, vR x0), (1, vI x1), (2, vI x2), (3, vI x3), (4, vI x4), (5, vI x5), (7, vI x7), (8, vI 0)]) [1, 2, 3, 4, 5, 6, 7, 0] rfl h
set_option maxRecDepth 100000 in
set_option maxHeartbeats 4000000 in
theorem bX10_heaps_135 {G : Gl} {S : Sh} {I : MI} {R : MR} {Q : Sh → MI → MR → Prop} {x0 : Nat} {x1 : Int} {x2 : Int} {x3 : Int} {x4 : Int} {x5 : Int} {x7 : Int} {x8 : Int} (h : ((3 ≤ x8 → LX10_heaps_109 G x0 x1 x2 x3 x4 x5 (w32 (x7 + (-1))) S I R Q) ∧ (¬ (3 ≤ x8) → (sT S x0 = 10 ∧ (sT S (R x0 8) = 21 ∧ (((0 : Int) ≤ (w32 ((w32 ((w32 (3 * x7)) - 3)) + x8)) ∧ (w32 ((w32 ((w32 (3 * x7)) - 3)) + x8)) < (sL S (R x0 8) : Int)) ∧ (((0 : Int) ≤ (w32 ((w32 (3 * x7)) + x8)) ∧ (w32 ((w32 (3 * x7)) + x8)) < (sL S (R x0 8) : Int)) ∧ (∀ I166, I166 = up2 I (R x0 8) (Int.toNat (w32 ((w32 (3 * x7)) + x8))) (I (R x0 8) (Int.toNat (w32 ((w32 ((w32 (3 * x7)) - 3)) + x8)))) → LX10_heaps_135 G x0 x1 x2 x3 x4 x5 x7 (w32 (x8 + 1)) S I166 R Q)))))))) : LX10_heaps_135 G x0 x1 x2 x3 x4 x5 x7 x8 S I R Q := by
  show E G MX10_heaps 135 [(0, vR x0), (1, vI x1), (2, vI x2), (3, vI x3), (4, vI x4), (5, vI x5), (7, vI x7), (8, vI x8)] [] S I R (qV Q)
  refine e_iload 7 dX10_heaps_135 rfl ?_
  refine e_iconst dX10_heaps_137 (by unfold InR; decide) ?_
  refine e_icmp_ge (tgt := 173) dX10_heaps_138 (by decide) (fun c => ?_) (fun c => ?_)
  · replace h := h.1 c
    refine e_iinc (ls2 := [(7, vI (w32 (x7 + (-1)))), (0, vR x0), (1, vI x1), (2, vI x2), (3, vI x3), (4, vI x4), (5, vI x5), (8, vI x8)]) 6 dX10_heaps_173 rfl (by decide) rfl ?_
    refine e_goto (tgt := 109) dX10_heaps_176 (by decide) ?_
    exact e_sub (ls2 := [(0, vR x0), (1, vI x1), (2, vI x2), (3, vI x3), (4, vI x4), (5, vI x5), (7, vI (w32 (x7 + (-1))))]) [1, 2, 3, 4, 5, 6, 0] rfl h
  · replace h := h.2 c
    refine e_aload_n 0 dX10_heaps_141 rfl ?_
    have o20 := h.1
    replace h := h.2
    refine e_getR dX10_heaps_142 flX10_33 rfl o20 ?_
    refine e_iconst dX10_heaps_145 (by unfold InR; decide) ?_
    refine e_iload 6 dX10_heaps_146 rfl ?_
    refine e_imul dX10_heaps_148 ?_
    refine e_iload 7 dX10_heaps_149 rfl ?_
    refine e_iadd dX10_heaps_151 ?_
    refine e_aload_n 0 dX10_heaps_152 rfl ?_
    refine e_getR dX10_heaps_153 flX10_33 rfl o20 ?_
    refine e_iconst dX10_heaps_156 (by unfold InR; decide) ?_
    refine e_iload 6 dX10_heaps_157 rfl ?_
    refine e_imul dX10_heaps_159 ?_
    refine e_iconst dX10_heaps_160 (by unfold InR; decide) ?_
    refine e_isub dX10_heaps_161 ?_
    refine e_iload 7 dX10_heaps_162 rfl ?_
    refine e_iadd dX10_heaps_164 ?_
    have o21 := h.1
    replace h := h.2
    have o22 := h.1
    replace h := h.2
    refine e_iald dX10_heaps_165 o21 o22 ?_
    have o23 := h.1
    replace h := h.2
    obtain ⟨I166, eI166⟩ : ∃ z : MI, z = up2 I (R x0 8) (Int.toNat (w32 ((w32 (3 * x7)) + x8))) (I (R x0 8) (Int.toNat (w32 ((w32 ((w32 (3 * x7)) - 3)) + x8)))) := ⟨_, rfl⟩
    replace h := h I166 eI166
    refine e_iast dX10_heaps_166 o21 o23 (eqI eI166 ?_)
    refine e_iinc (ls2 := [(8, vI (w32 (x8 + 1))), (0, vR x0), (1, vI x1), (2, vI x2), (3, vI x3), (4, vI x4), (5, vI x5), (7, vI x7)]) 7 dX10_heaps_167 rfl (by decide) rfl ?_
    refine e_goto (tgt := 135) dX10_heaps_170 (by decide) ?_
    exact e_sub (ls2 := [(0, vR x0), (1, vI x1), (2, vI x2), (3, vI x3), (4, vI x4), (5, vI x5), (7, vI x7), (8, vI (w32 (x8 + 1)))]) [1, 2, 3, 4, 5, 6, 7, 0] rfl h

def LX10_heapsRow_3 (G : Gl) (x0 : Nat) (x1 : Int) (x2 : Int) (x3 : Int) (x4 : Int) (x5 : Int) (x6 : Int) (S : Sh) (I : MI) (R : MR) (Q : Sh → MI → MR → Prop) : Prop := E G MX10_heapsRow 3 [(0, vR x0), (1, vI x1), (2, vI x2), (3, vI x3), (4, vI x4), (5, vI x5), (6, vI x6)] [] S I R (qV Q)
set_option maxRecDepth 100000 in
set_option maxHeartbeats 4000000 in
theorem bX10_heapsRow {G : Gl} {S : Sh} {I : MI} {R : MR} {Q : Sh → MI → MR → Prop} {x0 : Nat} {x1 : Int} {x2 : Int} {x3 : Int} {x4 : Int} {x5 : Int} (h : LX10_heapsRow_3 G x0 x1 x2 x3 x4 x5 0 S I R Q) : CV G MX10_heapsRow [vR x0, vI x1, vI x2, vI x3, vI x4, vI x5] S I R Q := by
  show E G MX10_heapsRow 0 [(0, vR x0), (1, vI x1), (2, vI x2), (3, vI x3), (4, vI x4), (5, vI x5)] [] S I R (qV Q)
  refine e_iconst dX10_heapsRow_0 (by unfold InR; decide) ?_
  refine e_istore (ls2 := [(6, vI 0), (0, vR x0), (1, vI x1), (2, vI x2), (3, vI x3), (4, vI x4), (5, vI x5)]) dX10_heapsRow_1 (by decide) rfl ?_
  exact e_sub (ls2 := [(0, vR x0), (1, vI x1), (2, vI x2), (3, vI x3), (4, vI x4), (5, vI x5), (6, vI 0)]) [1, 2, 3, 4, 5, 6, 0] rfl h
set_option maxRecDepth 100000 in
set_option maxHeartbeats 4000000 in
theorem bX10_heapsRow_3 {G : Gl} {S : Sh} {I : MI} {R : MR} {Q : Sh → MI → MR → Prop} {x0 : Nat} {x1 : Int} {x2 : Int} {x3 : Int} {x4 : Int} {x5 : Int} {x6 : Int} (h : (sT S x0 = 10 ∧ (sT S (R x0 4) = 21 ∧ (((0 : Int) ≤ x1 ∧ x1 < (sL S (R x0 4) : Int)) ∧ (((I (R x0 4) (Int.toNat x1)) ≤ x6 → Q S I R) ∧ (¬ ((I (R x0 4) (Int.toNat x1)) ≤ x6) → (sT S (R x0 5) = 21 ∧ (((0 : Int) ≤ (vX10_at x0 x1 x6) ∧ (vX10_at x0 x1 x6) < (sL S (R x0 5) : Int)) ∧ ((I x0 2) ≠ 0 ∧ ((pX10_power S R x0 x1 x6 0) ∧ ((pX10_power S R x0 x1 x6 1) ∧ ((pX10_power S R x0 x1 x6 2) ∧ (CV G MX10_heaps [vR x0, vI (w32 (lrem (w64 ((I (R x0 5) (Int.toNat (vX10_at x0 x1 x6))) * x2)) (I x0 2))), vI (w32 ((vX10_power I R x0 x1 x6 0) + x3)), vI (w32 ((vX10_power I R x0 x1 x6 1) + x4)), vI (w32 ((vX10_power I R x0 x1 x6 2) + x5))] S I R (fun S70 I70 R70 => LX10_heapsRow_3 G x0 x1 x2 x3 x4 x5 (w32 (x6 + 1)) S70 I70 R70 Q)))))))))))))) : LX10_heapsRow_3 G x0 x1 x2 x3 x4 x5 x6 S I R Q := by
  show E G MX10_heapsRow 3 [(0, vR x0), (1, vI x1), (2, vI x2), (3, vI x3), (4, vI x4), (5, vI x5), (6, vI x6)] [] S I R (qV Q)
  refine e_iload 6 dX10_heapsRow_3 rfl ?_
  refine e_aload_n 0 dX10_heapsRow_5 rfl ?_
  have o1 := h.1
  replace h := h.2
  refine e_getR dX10_heapsRow_6 flX10_20 rfl o1 ?_
  refine e_iload_n 1 dX10_heapsRow_9 rfl ?_
  have o2 := h.1
  replace h := h.2
  have o3 := h.1
  replace h := h.2
  refine e_iald dX10_heapsRow_10 o2 o3 ?_
  refine e_icmp_ge (tgt := 79) dX10_heapsRow_11 (by decide) (fun c => ?_) (fun c => ?_)
  · replace h := h.1 c
    exact e_return dX10_heapsRow_79 rfl ⟨rfl, h⟩
  · replace h := h.2 c
    refine e_aload_n 0 dX10_heapsRow_14 rfl ?_
    refine e_aload_n 0 dX10_heapsRow_15 rfl ?_
    refine e_getR dX10_heapsRow_16 flX10_23 rfl o1 ?_
    refine e_aload_n 0 dX10_heapsRow_19 rfl ?_
    refine e_iload_n 1 dX10_heapsRow_20 rfl ?_
    refine e_iload 6 dX10_heapsRow_21 rfl ?_
    refine i_VI (μ' := MX10_at) (ci := 9) (r := x0) (as := [vI x1, vI x6]) (st := [vR (R x0 5), vR x0]) rfl dX10_heapsRow_23 mOKX10_at ⟨mlX10_68, imX10_at, seX10_at⟩ (by decide) (Nat.le_of_ble_eq_true rfl) rfl (Nat.le_of_ble_eq_true rfl) ⟨by decide, rfl⟩ o1 (sX10_at ?_)
    have o4 := h.1
    replace h := h.2
    have o5 := h.1
    replace h := h.2
    refine e_iald dX10_heapsRow_26 o4 o5 ?_
    refine e_i2l dX10_heapsRow_27 ?_
    refine e_iload_n 2 dX10_heapsRow_28 rfl ?_
    refine e_i2l dX10_heapsRow_29 ?_
    refine e_lmul dX10_heapsRow_30 ?_
    refine e_aload_n 0 dX10_heapsRow_31 rfl ?_
    refine e_getI dX10_heapsRow_32 flX10_13 rfl o1 ?_
    refine e_i2l dX10_heapsRow_35 ?_
    have o6 := h.1
    replace h := h.2
    refine e_lrem dX10_heapsRow_36 o6 ?_
    refine e_l2i dX10_heapsRow_37 ?_
    refine e_aload_n 0 dX10_heapsRow_38 rfl ?_
    refine e_iload_n 1 dX10_heapsRow_39 rfl ?_
    refine e_iload 6 dX10_heapsRow_40 rfl ?_
    refine e_iconst dX10_heapsRow_42 (by unfold InR; decide) ?_
    have o7 := h.1
    replace h := h.2
    refine i_VI (μ' := MX10_power) (ci := 9) (r := x0) (as := [vI x1, vI x6, vI 0]) (st := [vI (w32 (lrem (w64 ((I (R x0 5) (Int.toNat (vX10_at x0 x1 x6))) * x2)) (I x0 2))), vR x0]) rfl dX10_heapsRow_43 mOKX10_power ⟨mlX10_72, imX10_power, seX10_power⟩ (by decide) (Nat.le_of_ble_eq_true rfl) rfl (Nat.le_of_ble_eq_true rfl) ⟨by decide, rfl⟩ o1 (sX10_power o7 ?_)
    refine e_iload_n 3 dX10_heapsRow_46 rfl ?_
    refine e_iadd dX10_heapsRow_47 ?_
    refine e_aload_n 0 dX10_heapsRow_48 rfl ?_
    refine e_iload_n 1 dX10_heapsRow_49 rfl ?_
    refine e_iload 6 dX10_heapsRow_50 rfl ?_
    refine e_iconst dX10_heapsRow_52 (by unfold InR; decide) ?_
    have o8 := h.1
    replace h := h.2
    refine i_VI (μ' := MX10_power) (ci := 9) (r := x0) (as := [vI x1, vI x6, vI 1]) (st := [vI (w32 ((vX10_power I R x0 x1 x6 0) + x3)), vI (w32 (lrem (w64 ((I (R x0 5) (Int.toNat (vX10_at x0 x1 x6))) * x2)) (I x0 2))), vR x0]) rfl dX10_heapsRow_53 mOKX10_power ⟨mlX10_72, imX10_power, seX10_power⟩ (by decide) (Nat.le_of_ble_eq_true rfl) rfl (Nat.le_of_ble_eq_true rfl) ⟨by decide, rfl⟩ o1 (sX10_power o8 ?_)
    refine e_iload 4 dX10_heapsRow_56 rfl ?_
    refine e_iadd dX10_heapsRow_58 ?_
    refine e_aload_n 0 dX10_heapsRow_59 rfl ?_
    refine e_iload_n 1 dX10_heapsRow_60 rfl ?_
    refine e_iload 6 dX10_heapsRow_61 rfl ?_
    refine e_iconst dX10_heapsRow_63 (by unfold InR; decide) ?_
    have o9 := h.1
    replace h := h.2
    refine i_VI (μ' := MX10_power) (ci := 9) (r := x0) (as := [vI x1, vI x6, vI 2]) (st := [vI (w32 ((vX10_power I R x0 x1 x6 1) + x4)), vI (w32 ((vX10_power I R x0 x1 x6 0) + x3)), vI (w32 (lrem (w64 ((I (R x0 5) (Int.toNat (vX10_at x0 x1 x6))) * x2)) (I x0 2))), vR x0]) rfl dX10_heapsRow_64 mOKX10_power ⟨mlX10_72, imX10_power, seX10_power⟩ (by decide) (Nat.le_of_ble_eq_true rfl) rfl (Nat.le_of_ble_eq_true rfl) ⟨by decide, rfl⟩ o1 (sX10_power o9 ?_)
    refine e_iload 5 dX10_heapsRow_67 rfl ?_
    refine e_iadd dX10_heapsRow_69 ?_
    refine i_VV (μ' := MX10_heaps) (ci := 9) (r := x0) (as := [vI (w32 (lrem (w64 ((I (R x0 5) (Int.toNat (vX10_at x0 x1 x6))) * x2)) (I x0 2))), vI (w32 ((vX10_power I R x0 x1 x6 0) + x3)), vI (w32 ((vX10_power I R x0 x1 x6 1) + x4)), vI (w32 ((vX10_power I R x0 x1 x6 2) + x5))]) (st := []) rfl dX10_heapsRow_70 mOKX10_heaps ⟨mlX10_100, imX10_heaps, seX10_heaps⟩ (by decide) (Nat.le_of_ble_eq_true rfl) rfl (Nat.le_of_ble_eq_true rfl) ⟨by decide, rfl⟩ o1 (CV.mono h ?_)
    clear h
    intro S70 I70 R70 h
    refine e_iinc (ls2 := [(6, vI (w32 (x6 + 1))), (0, vR x0), (1, vI x1), (2, vI x2), (3, vI x3), (4, vI x4), (5, vI x5)]) 6 dX10_heapsRow_73 rfl (by decide) rfl ?_
    refine e_goto (tgt := 3) dX10_heapsRow_76 (by decide) ?_
    exact e_sub (ls2 := [(0, vR x0), (1, vI x1), (2, vI x2), (3, vI x3), (4, vI x4), (5, vI x5), (6, vI (w32 (x6 + 1)))]) [1, 2, 3, 4, 5, 6, 0] rfl h

def LX10_takes_7 (G : Gl) (x0 : Nat) (x1 : Int) (x2 : Int) (x3 : Int) (x4 : Int) (S : Sh) (I : MI) (R : MR) (Q : Sh → MI → MR → Int → Prop) : Prop := E G MX10_takes 7 [(0, vR x0), (1, vI x1), (2, vI x2), (3, vI x3), (4, vI x4)] [] S I R (qI Q)
def LX10_takes_103 (G : Gl) (x0 : Nat) (x1 : Int) (x4 : Int) (S : Sh) (I : MI) (R : MR) (Q : Sh → MI → MR → Int → Prop) : Prop := E G MX10_takes 103 [(0, vR x0), (1, vI x1), (4, vI x4)] [] S I R (qI Q)
def LX10_takes_36 (G : Gl) (x0 : Nat) (x1 : Int) (x2 : Int) (x3 : Int) (x4 : Int) (x5 : Int) (S : Sh) (I : MI) (R : MR) (Q : Sh → MI → MR → Int → Prop) : Prop := E G MX10_takes 36 [(0, vR x0), (1, vI x1), (2, vI x2), (3, vI x3), (4, vI x4), (5, vI x5)] [] S I R (qI Q)
def LX10_takes_151 (G : Gl) (x0 : Nat) (x1 : Int) (x4 : Int) (x5 : Int) (S : Sh) (I : MI) (R : MR) (Q : Sh → MI → MR → Int → Prop) : Prop := E G MX10_takes 151 [(0, vR x0), (1, vI x1), (4, vI x4), (5, vI x5)] [] S I R (qI Q)
set_option maxRecDepth 100000 in
set_option maxHeartbeats 4000000 in
theorem bX10_takes {G : Gl} {S : Sh} {I : MI} {R : MR} {Q : Sh → MI → MR → Int → Prop} {x0 : Nat} {x1 : Int} (h : LX10_takes_7 G x0 x1 0 1 0 S I R Q) : CI G MX10_takes [vR x0, vI x1] S I R Q := by
  show E G MX10_takes 0 [(0, vR x0), (1, vI x1)] [] S I R (qI Q)
  refine e_iconst dX10_takes_0 (by unfold InR; decide) ?_
  refine e_istore_n (ls2 := [(2, vI 0), (0, vR x0), (1, vI x1)]) dX10_takes_1 (by decide) rfl ?_
  refine e_iconst dX10_takes_2 (by unfold InR; decide) ?_
  refine e_istore_n (ls2 := [(3, vI 1), (2, vI 0), (0, vR x0), (1, vI x1)]) dX10_takes_3 (by decide) rfl ?_
  refine e_iconst dX10_takes_4 (by unfold InR; decide) ?_
  refine e_istore (ls2 := [(4, vI 0), (3, vI 1), (2, vI 0), (0, vR x0), (1, vI x1)]) dX10_takes_5 (by decide) rfl ?_
  exact e_sub (ls2 := [(0, vR x0), (1, vI x1), (2, vI 0), (3, vI 1), (4, vI 0)]) [3, 4, 2, 1, 0] rfl h
set_option maxRecDepth 100000 in
set_option maxHeartbeats 4000000 in
theorem bX10_takes_7 {G : Gl} {S : Sh} {I : MI} {R : MR} {Q : Sh → MI → MR → Int → Prop} {x0 : Nat} {x1 : Int} {x2 : Int} {x3 : Int} {x4 : Int} (h : (sT S x0 = 10 ∧ (((I x0 9) ≤ x4 → ((x3 = 0 → Q S I R 0) ∧ (¬ (x3 = 0) → ((x2 ≤ 60 → (sT S (R x0 4) = 21 ∧ (((0 : Int) ≤ x1 ∧ x1 < (sL S (R x0 4) : Int)) ∧ (∀ I99, I99 = up2 I (R x0 4) (Int.toNat x1) 0 → LX10_takes_103 G x0 x1 0 S I99 R Q)))) ∧ (¬ (x2 ≤ 60) → Q S I R 0))))) ∧ (¬ ((I x0 9) ≤ x4) → (sT S (R x0 7) = 21 ∧ (((0 : Int) ≤ x4 ∧ x4 < (sL S (R x0 7) : Int)) ∧ (((I (R x0 7) (Int.toNat x4)) ≠ 0 → LX10_takes_36 G x0 x1 (w32 (x2 + 1)) x3 x4 0 S I R Q) ∧ (¬ ((I (R x0 7) (Int.toNat x4)) ≠ 0) → LX10_takes_7 G x0 x1 x2 x3 (w32 (x4 + 1)) S I R Q)))))))) : LX10_takes_7 G x0 x1 x2 x3 x4 S I R Q := by
  show E G MX10_takes 7 [(0, vR x0), (1, vI x1), (2, vI x2), (3, vI x3), (4, vI x4)] [] S I R (qI Q)
  refine e_iload 4 dX10_takes_7 rfl ?_
  refine e_aload_n 0 dX10_takes_9 rfl ?_
  have o1 := h.1
  replace h := h.2
  refine e_getI dX10_takes_10 flX10_93 rfl o1 ?_
  refine e_icmp_ge (tgt := 81) dX10_takes_13 (by decide) (fun c => ?_) (fun c => ?_)
  · replace h := h.1 c
    refine e_iload_n 3 dX10_takes_81 rfl ?_
    refine e_if_eq (tgt := 91) dX10_takes_82 (by decide) (fun c => ?_) (fun c => ?_)
    · replace h := h.1 c
      refine e_iconst dX10_takes_91 (by unfold InR; decide) ?_
      exact e_zreturn dX10_takes_92 rfl (by decide) ⟨_, rfl, h⟩
    · replace h := h.2 c
      refine e_iload_n 2 dX10_takes_85 rfl ?_
      refine e_bipush (x := 60) dX10_takes_86 ⟨by decide +kernel, by unfold InR; decide⟩ ?_
      refine e_icmp_le (tgt := 93) dX10_takes_88 (by decide) (fun c => ?_) (fun c => ?_)
      · replace h := h.1 c
        refine e_aload_n 0 dX10_takes_93 rfl ?_
        refine e_getR dX10_takes_94 flX10_20 rfl o1 ?_
        refine e_iload_n 1 dX10_takes_97 rfl ?_
        refine e_iconst dX10_takes_98 (by unfold InR; decide) ?_
        have o2 := h.1
        replace h := h.2
        have o3 := h.1
        replace h := h.2
        obtain ⟨I99, eI99⟩ : ∃ z : MI, z = up2 I (R x0 4) (Int.toNat x1) 0 := ⟨_, rfl⟩
        replace h := h I99 eI99
        refine e_iast dX10_takes_99 o2 o3 (eqI eI99 ?_)
        refine e_iconst dX10_takes_100 (by unfold InR; decide) ?_
        refine e_istore (ls2 := [(4, vI 0), (0, vR x0), (1, vI x1), (2, vI x2), (3, vI x3)]) dX10_takes_101 (by decide) rfl ?_
        exact e_sub (ls2 := [(0, vR x0), (1, vI x1), (4, vI 0)]) [1, 2, 0] rfl h
      · replace h := h.2 c
        refine e_iconst dX10_takes_91 (by unfold InR; decide) ?_
        exact e_zreturn dX10_takes_92 rfl (by decide) ⟨_, rfl, h⟩
  · replace h := h.2 c
    refine e_aload_n 0 dX10_takes_16 rfl ?_
    refine e_getR dX10_takes_17 flX10_30 rfl o1 ?_
    refine e_iload 4 dX10_takes_20 rfl ?_
    have o4 := h.1
    replace h := h.2
    have o5 := h.1
    replace h := h.2
    refine e_iald dX10_takes_22 o4 o5 ?_
    refine e_if_ne (tgt := 29) dX10_takes_23 (by decide) (fun c => ?_) (fun c => ?_)
    · replace h := h.1 c
      refine e_iload_n 2 dX10_takes_29 rfl ?_
      refine e_iconst dX10_takes_30 (by unfold InR; decide) ?_
      refine e_iadd dX10_takes_31 ?_
      refine e_istore_n (ls2 := [(2, vI (w32 (x2 + 1))), (0, vR x0), (1, vI x1), (3, vI x3), (4, vI x4)]) dX10_takes_32 (by decide) rfl ?_
      refine e_iconst dX10_takes_33 (by unfold InR; decide) ?_
      refine e_istore (ls2 := [(5, vI 0), (2, vI (w32 (x2 + 1))), (0, vR x0), (1, vI x1), (3, vI x3), (4, vI x4)]) dX10_takes_34 (by decide) rfl ?_
      exact e_sub (ls2 := [(0, vR x0), (1, vI x1), (2, vI (w32 (x2 + 1))), (3, vI x3), (4, vI x4), (5, vI 0)]) [2, 3, 1, 4, 5, 0] rfl h
    · replace h := h.2 c
      refine e_goto (tgt := 75) dX10_takes_26 (by decide) ?_
      refine e_iinc (ls2 := [(4, vI (w32 (x4 + 1))), (0, vR x0), (1, vI x1), (2, vI x2), (3, vI x3)]) 4 dX10_takes_75 rfl (by decide) rfl ?_
      refine e_goto (tgt := 7) dX10_takes_78 (by decide) ?_
      exact e_sub (ls2 := [(0, vR x0), (1, vI x1), (2, vI x2), (3, vI x3), (4, vI (w32 (x4 + 1)))]) [1, 2, 3, 4, 0] rfl h
set_option maxRecDepth 100000 in
set_option maxHeartbeats 4000000 in
theorem bX10_takes_103 {G : Gl} {S : Sh} {I : MI} {R : MR} {Q : Sh → MI → MR → Int → Prop} {x0 : Nat} {x1 : Int} {x4 : Int} (h : (sT S x0 = 10 ∧ (((I x0 9) ≤ x4 → Q S I R 1) ∧ (¬ ((I x0 9) ≤ x4) → (sT S (R x0 7) = 21 ∧ (((0 : Int) ≤ x4 ∧ x4 < (sL S (R x0 7) : Int)) ∧ (((I (R x0 7) (Int.toNat x4)) ≠ 0 → (sT S (R x0 4) = 21 ∧ (((0 : Int) ≤ x1 ∧ x1 < (sL S (R x0 4) : Int)) ∧ (sT S (R x0 5) = 21 ∧ (((0 : Int) ≤ (vX10_at x0 x1 (I (R x0 4) (Int.toNat x1))) ∧ (vX10_at x0 x1 (I (R x0 4) (Int.toNat x1))) < (sL S (R x0 5) : Int)) ∧ (∀ I147, I147 = up2 I (R x0 5) (Int.toNat (vX10_at x0 x1 (I (R x0 4) (Int.toNat x1)))) (I (R x0 7) (Int.toNat x4)) → LX10_takes_151 G x0 x1 x4 0 S I147 R Q)))))) ∧ (¬ ((I (R x0 7) (Int.toNat x4)) ≠ 0) → LX10_takes_103 G x0 x1 (w32 (x4 + 1)) S I R Q)))))))) : LX10_takes_103 G x0 x1 x4 S I R Q := by
  show E G MX10_takes 103 [(0, vR x0), (1, vI x1), (4, vI x4)] [] S I R (qI Q)
  refine e_iload 2 dX10_takes_103 rfl ?_
  refine e_aload_n 0 dX10_takes_105 rfl ?_
  have o6 := h.1
  replace h := h.2
  refine e_getI dX10_takes_106 flX10_93 rfl o6 ?_
  refine e_icmp_ge (tgt := 216) dX10_takes_109 (by decide) (fun c => ?_) (fun c => ?_)
  · replace h := h.1 c
    refine e_iconst dX10_takes_216 (by unfold InR; decide) ?_
    exact e_zreturn dX10_takes_217 rfl (by decide) ⟨_, rfl, h⟩
  · replace h := h.2 c
    refine e_aload_n 0 dX10_takes_112 rfl ?_
    refine e_getR dX10_takes_113 flX10_30 rfl o6 ?_
    refine e_iload 2 dX10_takes_116 rfl ?_
    have o7 := h.1
    replace h := h.2
    have o8 := h.1
    replace h := h.2
    refine e_iald dX10_takes_118 o7 o8 ?_
    refine e_if_ne (tgt := 125) dX10_takes_119 (by decide) (fun c => ?_) (fun c => ?_)
    · replace h := h.1 c
      refine e_aload_n 0 dX10_takes_125 rfl ?_
      refine e_getR dX10_takes_126 flX10_23 rfl o6 ?_
      refine e_aload_n 0 dX10_takes_129 rfl ?_
      refine e_iload_n 1 dX10_takes_130 rfl ?_
      refine e_aload_n 0 dX10_takes_131 rfl ?_
      refine e_getR dX10_takes_132 flX10_20 rfl o6 ?_
      refine e_iload_n 1 dX10_takes_135 rfl ?_
      have o9 := h.1
      replace h := h.2
      have o10 := h.1
      replace h := h.2
      refine e_iald dX10_takes_136 o9 o10 ?_
      refine i_VI (μ' := MX10_at) (ci := 9) (r := x0) (as := [vI x1, vI (I (R x0 4) (Int.toNat x1))]) (st := [vR (R x0 5)]) rfl dX10_takes_137 mOKX10_at ⟨mlX10_68, imX10_at, seX10_at⟩ (by decide) (Nat.le_of_ble_eq_true rfl) rfl (Nat.le_of_ble_eq_true rfl) ⟨by decide, rfl⟩ o6 (sX10_at ?_)
      refine e_aload_n 0 dX10_takes_140 rfl ?_
      refine e_getR dX10_takes_141 flX10_30 rfl o6 ?_
      refine e_iload 2 dX10_takes_144 rfl ?_
      refine e_iald dX10_takes_146 o7 o8 ?_
      have o11 := h.1
      replace h := h.2
      have o12 := h.1
      replace h := h.2
      obtain ⟨I147, eI147⟩ : ∃ z : MI, z = up2 I (R x0 5) (Int.toNat (vX10_at x0 x1 (I (R x0 4) (Int.toNat x1)))) (I (R x0 7) (Int.toNat x4)) := ⟨_, rfl⟩
      replace h := h I147 eI147
      refine e_iast dX10_takes_147 o11 o12 (eqI eI147 ?_)
      refine e_iconst dX10_takes_148 (by unfold InR; decide) ?_
      refine e_istore (ls2 := [(5, vI 0), (0, vR x0), (1, vI x1), (4, vI x4)]) dX10_takes_149 (by decide) rfl ?_
      exact e_sub (ls2 := [(0, vR x0), (1, vI x1), (4, vI x4), (5, vI 0)]) [1, 2, 3, 0] rfl h
    · replace h := h.2 c
      refine e_goto (tgt := 210) dX10_takes_122 (by decide) ?_
      refine e_iinc (ls2 := [(4, vI (w32 (x4 + 1))), (0, vR x0), (1, vI x1)]) 2 dX10_takes_210 rfl (by decide) rfl ?_
      refine e_goto (tgt := 103) dX10_takes_213 (by decide) ?_
      exact e_sub (ls2 := [(0, vR x0), (1, vI x1), (4, vI (w32 (x4 + 1)))]) [1, 2, 0] rfl h
set_option maxRecDepth 100000 in
set_option maxHeartbeats 4000000 in
theorem bX10_takes_36 {G : Gl} {S : Sh} {I : MI} {R : MR} {Q : Sh → MI → MR → Int → Prop} {x0 : Nat} {x1 : Int} {x2 : Int} {x3 : Int} {x4 : Int} {x5 : Int} (h : ((3 ≤ x5 → LX10_takes_7 G x0 x1 x2 x3 (w32 (x4 + 1)) S I R Q) ∧ (¬ (3 ≤ x5) → ((x3 = 0 → LX10_takes_36 G x0 x1 x2 0 x4 (w32 (x5 + 1)) S I R Q) ∧ (¬ (x3 = 0) → (sT S x0 = 10 ∧ (sT S (R x0 8) = 21 ∧ (((0 : Int) ≤ (w32 ((w32 (3 * x4)) + x5)) ∧ (w32 ((w32 (3 * x4)) + x5)) < (sL S (R x0 8) : Int)) ∧ ((30 < (I (R x0 8) (Int.toNat (w32 ((w32 (3 * x4)) + x5)))) → LX10_takes_36 G x0 x1 x2 0 x4 (w32 (x5 + 1)) S I R Q) ∧ (¬ (30 < (I (R x0 8) (Int.toNat (w32 ((w32 (3 * x4)) + x5))))) → LX10_takes_36 G x0 x1 x2 1 x4 (w32 (x5 + 1)) S I R Q)))))))))) : LX10_takes_36 G x0 x1 x2 x3 x4 x5 S I R Q := by
  show E G MX10_takes 36 [(0, vR x0), (1, vI x1), (2, vI x2), (3, vI x3), (4, vI x4), (5, vI x5)] [] S I R (qI Q)
  refine e_iload 5 dX10_takes_36 rfl ?_
  refine e_iconst dX10_takes_38 (by unfold InR; decide) ?_
  refine e_icmp_ge (tgt := 75) dX10_takes_39 (by decide) (fun c => ?_) (fun c => ?_)
  · replace h := h.1 c
    refine e_iinc (ls2 := [(4, vI (w32 (x4 + 1))), (0, vR x0), (1, vI x1), (2, vI x2), (3, vI x3), (5, vI x5)]) 4 dX10_takes_75 rfl (by decide) rfl ?_
    refine e_goto (tgt := 7) dX10_takes_78 (by decide) ?_
    exact e_sub (ls2 := [(0, vR x0), (1, vI x1), (2, vI x2), (3, vI x3), (4, vI (w32 (x4 + 1)))]) [1, 2, 3, 4, 0] rfl h
  · replace h := h.2 c
    refine e_iload_n 3 dX10_takes_42 rfl ?_
    refine e_if_eq (tgt := 67) dX10_takes_43 (by decide) (fun c => ?_) (fun c => ?_)
    · replace h := h.1 c
      refine e_iconst dX10_takes_67 (by unfold InR; decide) ?_
      refine e_istore_n (ls2 := [(3, vI 0), (0, vR x0), (1, vI x1), (2, vI x2), (4, vI x4), (5, vI x5)]) dX10_takes_68 (by decide) rfl ?_
      refine e_iinc (ls2 := [(5, vI (w32 (x5 + 1))), (3, vI 0), (0, vR x0), (1, vI x1), (2, vI x2), (4, vI x4)]) 5 dX10_takes_69 rfl (by decide) rfl ?_
      refine e_goto (tgt := 36) dX10_takes_72 (by decide) ?_
      exact e_sub (ls2 := [(0, vR x0), (1, vI x1), (2, vI x2), (3, vI 0), (4, vI x4), (5, vI (w32 (x5 + 1)))]) [2, 3, 4, 1, 5, 0] rfl h
    · replace h := h.2 c
      refine e_aload_n 0 dX10_takes_46 rfl ?_
      have o13 := h.1
      replace h := h.2
      refine e_getR dX10_takes_47 flX10_33 rfl o13 ?_
      refine e_iconst dX10_takes_50 (by unfold InR; decide) ?_
      refine e_iload 4 dX10_takes_51 rfl ?_
      refine e_imul dX10_takes_53 ?_
      refine e_iload 5 dX10_takes_54 rfl ?_
      refine e_iadd dX10_takes_56 ?_
      have o14 := h.1
      replace h := h.2
      have o15 := h.1
      replace h := h.2
      refine e_iald dX10_takes_57 o14 o15 ?_
      refine e_bipush (x := 30) dX10_takes_58 ⟨by decide +kernel, by unfold InR; decide⟩ ?_
      refine e_icmp_gt (tgt := 67) dX10_takes_60 (by decide) (fun c => ?_) (fun c => ?_)
      · replace h := h.1 c
        refine e_iconst dX10_takes_67 (by unfold InR; decide) ?_
        refine e_istore_n (ls2 := [(3, vI 0), (0, vR x0), (1, vI x1), (2, vI x2), (4, vI x4), (5, vI x5)]) dX10_takes_68 (by decide) rfl ?_
        refine e_iinc (ls2 := [(5, vI (w32 (x5 + 1))), (3, vI 0), (0, vR x0), (1, vI x1), (2, vI x2), (4, vI x4)]) 5 dX10_takes_69 rfl (by decide) rfl ?_
        refine e_goto (tgt := 36) dX10_takes_72 (by decide) ?_
        exact e_sub (ls2 := [(0, vR x0), (1, vI x1), (2, vI x2), (3, vI 0), (4, vI x4), (5, vI (w32 (x5 + 1)))]) [2, 3, 4, 1, 5, 0] rfl h
      · replace h := h.2 c
        refine e_iconst dX10_takes_63 (by unfold InR; decide) ?_
        refine e_goto (tgt := 68) dX10_takes_64 (by decide) ?_
        refine e_istore_n (ls2 := [(3, vI 1), (0, vR x0), (1, vI x1), (2, vI x2), (4, vI x4), (5, vI x5)]) dX10_takes_68 (by decide) rfl ?_
        refine e_iinc (ls2 := [(5, vI (w32 (x5 + 1))), (3, vI 1), (0, vR x0), (1, vI x1), (2, vI x2), (4, vI x4)]) 5 dX10_takes_69 rfl (by decide) rfl ?_
        refine e_goto (tgt := 36) dX10_takes_72 (by decide) ?_
        exact e_sub (ls2 := [(0, vR x0), (1, vI x1), (2, vI x2), (3, vI 1), (4, vI x4), (5, vI (w32 (x5 + 1)))]) [2, 3, 4, 1, 5, 0] rfl h
set_option maxRecDepth 100000 in
set_option maxHeartbeats 4000000 in
theorem bX10_takes_151 {G : Gl} {S : Sh} {I : MI} {R : MR} {Q : Sh → MI → MR → Int → Prop} {x0 : Nat} {x1 : Int} {x4 : Int} {x5 : Int} (h : ((3 ≤ x5 → (sT S x0 = 10 ∧ (sT S (R x0 4) = 21 ∧ (((0 : Int) ≤ x1 ∧ x1 < (sL S (R x0 4) : Int)) ∧ (∀ I209, I209 = up2 I (R x0 4) (Int.toNat x1) (w32 ((I (R x0 4) (Int.toNat x1)) + 1)) → LX10_takes_103 G x0 x1 (w32 (x4 + 1)) S I209 R Q))))) ∧ (¬ (3 ≤ x5) → (sT S x0 = 10 ∧ (sT S (R x0 4) = 21 ∧ (((0 : Int) ≤ x1 ∧ x1 < (sL S (R x0 4) : Int)) ∧ (sT S (R x0 8) = 21 ∧ (((0 : Int) ≤ (w32 ((w32 (3 * x4)) + x5)) ∧ (w32 ((w32 (3 * x4)) + x5)) < (sL S (R x0 8) : Int)) ∧ (sT S (R x0 6) = 21 ∧ (((0 : Int) ≤ (w32 ((w32 (3 * (vX10_at x0 x1 (I (R x0 4) (Int.toNat x1))))) + x5)) ∧ (w32 ((w32 (3 * (vX10_at x0 x1 (I (R x0 4) (Int.toNat x1))))) + x5)) < (sL S (R x0 6) : Int)) ∧ (∀ I189, I189 = up2 I (R x0 6) (Int.toNat (w32 ((w32 (3 * (vX10_at x0 x1 (I (R x0 4) (Int.toNat x1))))) + x5))) (I (R x0 8) (Int.toNat (w32 ((w32 (3 * x4)) + x5)))) → LX10_takes_151 G x0 x1 x4 (w32 (x5 + 1)) S I189 R Q))))))))))) : LX10_takes_151 G x0 x1 x4 x5 S I R Q := by
  show E G MX10_takes 151 [(0, vR x0), (1, vI x1), (4, vI x4), (5, vI x5)] [] S I R (qI Q)
  refine e_iload 3 dX10_takes_151 rfl ?_
  refine e_iconst dX10_takes_153 (by unfold InR; decide) ?_
  refine e_icmp_ge (tgt := 196) dX10_takes_154 (by decide) (fun c => ?_) (fun c => ?_)
  · replace h := h.1 c
    refine e_aload_n 0 dX10_takes_196 rfl ?_
    have o16 := h.1
    replace h := h.2
    refine e_getR dX10_takes_197 flX10_20 rfl o16 ?_
    refine e_iload_n 1 dX10_takes_200 rfl ?_
    refine e_aload_n 0 dX10_takes_201 rfl ?_
    refine e_getR dX10_takes_202 flX10_20 rfl o16 ?_
    refine e_iload_n 1 dX10_takes_205 rfl ?_
    have o17 := h.1
    replace h := h.2
    have o18 := h.1
    replace h := h.2
    refine e_iald dX10_takes_206 o17 o18 ?_
    refine e_iconst dX10_takes_207 (by unfold InR; decide) ?_
    refine e_iadd dX10_takes_208 ?_
    obtain ⟨I209, eI209⟩ : ∃ z : MI, z = up2 I (R x0 4) (Int.toNat x1) (w32 ((I (R x0 4) (Int.toNat x1)) + 1)) := ⟨_, rfl⟩
    replace h := h I209 eI209
    refine e_iast dX10_takes_209 o17 o18 (eqI eI209 ?_)
    refine e_iinc (ls2 := [(4, vI (w32 (x4 + 1))), (0, vR x0), (1, vI x1), (5, vI x5)]) 2 dX10_takes_210 rfl (by decide) rfl ?_
    refine e_goto (tgt := 103) dX10_takes_213 (by decide) ?_
    exact e_sub (ls2 := [(0, vR x0), (1, vI x1), (4, vI (w32 (x4 + 1)))]) [1, 2, 0] rfl h
  · replace h := h.2 c
    refine e_aload_n 0 dX10_takes_157 rfl ?_
    have o19 := h.1
    replace h := h.2
    refine e_getR dX10_takes_158 flX10_27 rfl o19 ?_
    refine e_iconst dX10_takes_161 (by unfold InR; decide) ?_
    refine e_aload_n 0 dX10_takes_162 rfl ?_
    refine e_iload_n 1 dX10_takes_163 rfl ?_
    refine e_aload_n 0 dX10_takes_164 rfl ?_
    refine e_getR dX10_takes_165 flX10_20 rfl o19 ?_
    refine e_iload_n 1 dX10_takes_168 rfl ?_
    have o20 := h.1
    replace h := h.2
    have o21 := h.1
    replace h := h.2
    refine e_iald dX10_takes_169 o20 o21 ?_
    refine i_VI (μ' := MX10_at) (ci := 9) (r := x0) (as := [vI x1, vI (I (R x0 4) (Int.toNat x1))]) (st := [vI 3, vR (R x0 6)]) rfl dX10_takes_170 mOKX10_at ⟨mlX10_68, imX10_at, seX10_at⟩ (by decide) (Nat.le_of_ble_eq_true rfl) rfl (Nat.le_of_ble_eq_true rfl) ⟨by decide, rfl⟩ o19 (sX10_at ?_)
    refine e_imul dX10_takes_173 ?_
    refine e_iload 3 dX10_takes_174 rfl ?_
    refine e_iadd dX10_takes_176 ?_
    refine e_aload_n 0 dX10_takes_177 rfl ?_
    refine e_getR dX10_takes_178 flX10_33 rfl o19 ?_
    refine e_iconst dX10_takes_181 (by unfold InR; decide) ?_
    refine e_iload 2 dX10_takes_182 rfl ?_
    refine e_imul dX10_takes_184 ?_
    refine e_iload 3 dX10_takes_185 rfl ?_
    refine e_iadd dX10_takes_187 ?_
    have o22 := h.1
    replace h := h.2
    have o23 := h.1
    replace h := h.2
    refine e_iald dX10_takes_188 o22 o23 ?_
    have o24 := h.1
    replace h := h.2
    have o25 := h.1
    replace h := h.2
    obtain ⟨I189, eI189⟩ : ∃ z : MI, z = up2 I (R x0 6) (Int.toNat (w32 ((w32 (3 * (vX10_at x0 x1 (I (R x0 4) (Int.toNat x1))))) + x5))) (I (R x0 8) (Int.toNat (w32 ((w32 (3 * x4)) + x5)))) := ⟨_, rfl⟩
    replace h := h I189 eI189
    refine e_iast dX10_takes_189 o24 o25 (eqI eI189 ?_)
    refine e_iinc (ls2 := [(5, vI (w32 (x5 + 1))), (0, vR x0), (1, vI x1), (4, vI x4)]) 3 dX10_takes_190 rfl (by decide) rfl ?_
    refine e_goto (tgt := 151) dX10_takes_193 (by decide) ?_
    exact e_sub (ls2 := [(0, vR x0), (1, vI x1), (4, vI x4), (5, vI (w32 (x5 + 1)))]) [1, 2, 3, 0] rfl h

def vX10_isSlot  (x0 : Nat) (x1 : Int) : Int := (vX10_isIn x0 x1 0 7)
def pX10_isSlot (S : Sh) (x0 : Nat) (x1 : Int) : Prop := (sT S x0 = 10 ∧ (((vX10_isIn x0 x1 0 7) = 0 ∨ (vX10_isIn x0 x1 0 7) = 1) ∧ True))
set_option maxRecDepth 100000 in
set_option maxHeartbeats 4000000 in
theorem sX10_isSlot {G : Gl} {S : Sh} {I : MI} {R : MR} {Q : Sh → MI → MR → Int → Prop} {x0 : Nat} {x1 : Int} (hp : pX10_isSlot S x0 x1) (hq : Q S I R (vX10_isSlot x0 x1)) : CI G MX10_isSlot [vR x0, vI x1] S I R Q := by
  show E G MX10_isSlot 0 [(0, vR x0), (1, vI x1)] [] S I R (qI Q)
  unfold vX10_isSlot at hq
  unfold pX10_isSlot at hp
  refine e_aload_n 0 dX10_isSlot_0 rfl ?_
  refine e_iload_n 1 dX10_isSlot_1 rfl ?_
  refine e_i2l dX10_isSlot_2 ?_
  refine e_lconst (x := 0) dX10_isSlot_3 ⟨by decide +kernel, by unfold InL; decide⟩ ?_
  refine e_ldc2 (x := 7) dX10_isSlot_4 cnX10_104 (by unfold InL; decide) ?_
  have o1 := hp.1
  replace hp := hp.2
  refine i_VI (μ' := MX10_isIn) (ci := 9) (r := x0) (as := [vL x1, vL 0, vL 7]) (st := []) rfl dX10_isSlot_7 mOKX10_isIn ⟨mlX10_106, imX10_isIn, seX10_isIn⟩ (by decide) (Nat.le_of_ble_eq_true rfl) rfl (Nat.le_of_ble_eq_true rfl) ⟨by decide, rfl⟩ o1 (sX10_isIn ?_)
  have o2 := hp.1
  replace hp := hp.2
  exact e_zreturn dX10_isSlot_10 rfl o2 ⟨_, rfl, hq⟩

def LX10_isPrime_2 (G : Gl) (x1 : Int) (x2 : Int) (S : Sh) (I : MI) (R : MR) (Q : Sh → MI → MR → Int → Prop) : Prop := E G MX10_isPrime 2 [(1, vI x1), (2, vI x2)] [] S I R (qI Q)
set_option maxRecDepth 100000 in
set_option maxHeartbeats 4000000 in
theorem bX10_isPrime {G : Gl} {S : Sh} {I : MI} {R : MR} {Q : Sh → MI → MR → Int → Prop} {x0 : Nat} {x1 : Int} (h : LX10_isPrime_2 G x1 2 S I R Q) : CI G MX10_isPrime [vR x0, vI x1] S I R Q := by
  show E G MX10_isPrime 0 [(0, vR x0), (1, vI x1)] [] S I R (qI Q)
  refine e_iconst dX10_isPrime_0 (by unfold InR; decide) ?_
  refine e_istore_n (ls2 := [(2, vI 2), (0, vR x0), (1, vI x1)]) dX10_isPrime_1 (by decide) rfl ?_
  exact e_sub (ls2 := [(1, vI x1), (2, vI 2)]) [2, 0] rfl h
set_option maxRecDepth 100000 in
set_option maxHeartbeats 4000000 in
theorem bX10_isPrime_2 {G : Gl} {S : Sh} {I : MI} {R : MR} {Q : Sh → MI → MR → Int → Prop} {x1 : Int} {x2 : Int} (h : ((x1 < (w32 (x2 * x2)) → Q S I R 1) ∧ (¬ (x1 < (w32 (x2 * x2))) → (x2 ≠ 0 ∧ (((irem x1 x2) ≠ 0 → LX10_isPrime_2 G x1 (w32 (x2 + 1)) S I R Q) ∧ (¬ ((irem x1 x2) ≠ 0) → Q S I R 0)))))) : LX10_isPrime_2 G x1 x2 S I R Q := by
  show E G MX10_isPrime 2 [(1, vI x1), (2, vI x2)] [] S I R (qI Q)
  refine e_iload_n 1 dX10_isPrime_2 rfl ?_
  refine e_iload_n 1 dX10_isPrime_3 rfl ?_
  refine e_imul dX10_isPrime_4 ?_
  refine e_iload_n 0 dX10_isPrime_5 rfl ?_
  refine e_icmp_gt (tgt := 23) dX10_isPrime_6 (by decide) (fun c => ?_) (fun c => ?_)
  · replace h := h.1 c
    refine e_iconst dX10_isPrime_23 (by unfold InR; decide) ?_
    exact e_zreturn dX10_isPrime_24 rfl (by decide) ⟨_, rfl, h⟩
  · replace h := h.2 c
    refine e_iload_n 0 dX10_isPrime_9 rfl ?_
    refine e_iload_n 1 dX10_isPrime_10 rfl ?_
    have o1 := h.1
    replace h := h.2
    refine e_irem dX10_isPrime_11 o1 ?_
    refine e_if_ne (tgt := 17) dX10_isPrime_12 (by decide) (fun c => ?_) (fun c => ?_)
    · replace h := h.1 c
      refine e_iinc (ls2 := [(2, vI (w32 (x2 + 1))), (1, vI x1)]) 1 dX10_isPrime_17 rfl (by decide) rfl ?_
      refine e_goto (tgt := 2) dX10_isPrime_20 (by decide) ?_
      exact e_sub (ls2 := [(1, vI x1), (2, vI (w32 (x2 + 1)))]) [1, 0] rfl h
    · replace h := h.2 c
      refine e_iconst dX10_isPrime_15 (by unfold InR; decide) ?_
      exact e_zreturn dX10_isPrime_16 rfl (by decide) ⟨_, rfl, h⟩

def LX10_ring_55 (G : Gl) (x0 : Nat) (x3 : Int) (S : Sh) (I : MI) (R : MR) (Q : Sh → MI → MR → Int → Prop) : Prop := E G MX10_ring 55 [(0, vR x0), (3, vI x3)] [] S I R (qI Q)
def LX10_ring_75 (G : Gl) (x0 : Nat) (x3 : Int) (S : Sh) (I : MI) (R : MR) (Q : Sh → MI → MR → Int → Prop) : Prop := E G MX10_ring 75 [(0, vR x0), (3, vI x3)] [] S I R (qI Q)
set_option maxRecDepth 100000 in
set_option maxHeartbeats 4000000 in
theorem bX10_ring {G : Gl} {S : Sh} {I : MI} {R : MR} {Q : Sh → MI → MR → Int → Prop} {x0 : Nat} {x1 : Int} {x2 : Int} (h : (sT S x0 = 10 ∧ (∀ I2, I2 = up2 I x0 0 0 → (((vX10_isIn x0 x1 1 3) = 0 → Q S I2 R 0) ∧ (¬ ((vX10_isIn x0 x1 1 3) = 0) → (((vX10_isIn x0 x2 2 32749) = 0 → Q S I2 R 0) ∧ (¬ ((vX10_isIn x0 x2 2 32749) = 0) → (CI G MX10_isPrime [vR x0, vI x2] S I2 R (fun S35 I35 R35 x35_ => ((x35_ ≠ 0 → (sT S35 x0 = 10 ∧ (∀ I45, I45 = up2 I35 x0 1 x1 → (∀ I50, I50 = up2 I45 x0 2 x2 → LX10_ring_55 G x0 0 S35 I50 R35 Q)))) ∧ (¬ (x35_ ≠ 0) → Q S35 I35 R35 0))))))))))) : CI G MX10_ring [vR x0, vI x1, vI x2] S I R Q := by
  show E G MX10_ring 0 [(0, vR x0), (1, vI x1), (2, vI x2)] [] S I R (qI Q)
  refine e_aload_n 0 dX10_ring_0 rfl ?_
  refine e_iconst dX10_ring_1 (by unfold InR; decide) ?_
  have o1 := h.1
  replace h := h.2
  obtain ⟨I2, eI2⟩ : ∃ z : MI, z = up2 I x0 0 0 := ⟨_, rfl⟩
  replace h := h I2 eI2
  refine e_putI dX10_ring_2 flX10_65 rfl (Or.inl rfl) o1 (eqI eI2 ?_)
  refine e_aload_n 0 dX10_ring_5 rfl ?_
  refine e_iload_n 1 dX10_ring_6 rfl ?_
  refine e_i2l dX10_ring_7 ?_
  refine e_lconst (x := 1) dX10_ring_8 ⟨by decide +kernel, by unfold InL; decide⟩ ?_
  refine e_ldc2 (x := 3) dX10_ring_9 cnX10_110 (by unfold InL; decide) ?_
  refine i_VI (μ' := MX10_isIn) (ci := 9) (r := x0) (as := [vL x1, vL 1, vL 3]) (st := []) rfl dX10_ring_12 mOKX10_isIn ⟨mlX10_106, imX10_isIn, seX10_isIn⟩ (by decide) (Nat.le_of_ble_eq_true rfl) rfl (Nat.le_of_ble_eq_true rfl) ⟨by decide, rfl⟩ o1 (sX10_isIn ?_)
  refine e_if_eq (tgt := 41) dX10_ring_15 (by decide) (fun c => ?_) (fun c => ?_)
  · replace h := h.1 c
    refine e_iconst dX10_ring_41 (by unfold InR; decide) ?_
    exact e_zreturn dX10_ring_42 rfl (by decide) ⟨_, rfl, h⟩
  · replace h := h.2 c
    refine e_aload_n 0 dX10_ring_18 rfl ?_
    refine e_iload_n 2 dX10_ring_19 rfl ?_
    refine e_i2l dX10_ring_20 ?_
    refine e_ldc2 (x := 2) dX10_ring_21 cnX10_112 (by unfold InL; decide) ?_
    refine e_ldc2 (x := 32749) dX10_ring_24 cnX10_114 (by unfold InL; decide) ?_
    refine i_VI (μ' := MX10_isIn) (ci := 9) (r := x0) (as := [vL x2, vL 2, vL 32749]) (st := []) rfl dX10_ring_27 mOKX10_isIn ⟨mlX10_106, imX10_isIn, seX10_isIn⟩ (by decide) (Nat.le_of_ble_eq_true rfl) rfl (Nat.le_of_ble_eq_true rfl) ⟨by decide, rfl⟩ o1 (sX10_isIn ?_)
    refine e_if_eq (tgt := 41) dX10_ring_30 (by decide) (fun c => ?_) (fun c => ?_)
    · replace h := h.1 c
      refine e_iconst dX10_ring_41 (by unfold InR; decide) ?_
      exact e_zreturn dX10_ring_42 rfl (by decide) ⟨_, rfl, h⟩
    · replace h := h.2 c
      refine e_aload_n 0 dX10_ring_33 rfl ?_
      refine e_iload_n 2 dX10_ring_34 rfl ?_
      refine i_VI (μ' := MX10_isPrime) (ci := 9) (r := x0) (as := [vI x2]) (st := []) rfl dX10_ring_35 mOKX10_isPrime ⟨mlX10_116, imX10_isPrime, seX10_isPrime⟩ (by decide) (Nat.le_of_ble_eq_true rfl) rfl (Nat.le_of_ble_eq_true rfl) ⟨by decide, rfl⟩ o1 (CI.mono h ?_)
      clear h
      intro S35 I35 R35 x35_ h
      refine e_if_ne (tgt := 43) dX10_ring_38 (by decide) (fun c => ?_) (fun c => ?_)
      · replace h := h.1 c
        refine e_aload_n 0 dX10_ring_43 rfl ?_
        refine e_iload_n 1 dX10_ring_44 rfl ?_
        have o2 := h.1
        replace h := h.2
        obtain ⟨I45, eI45⟩ : ∃ z : MI, z = up2 I35 x0 1 x1 := ⟨_, rfl⟩
        replace h := h I45 eI45
        refine e_putI dX10_ring_45 flX10_7 rfl (Or.inl rfl) o2 (eqI eI45 ?_)
        refine e_aload_n 0 dX10_ring_48 rfl ?_
        refine e_iload_n 2 dX10_ring_49 rfl ?_
        obtain ⟨I50, eI50⟩ : ∃ z : MI, z = up2 I45 x0 2 x2 := ⟨_, rfl⟩
        replace h := h I50 eI50
        refine e_putI dX10_ring_50 flX10_13 rfl (Or.inl rfl) o2 (eqI eI50 ?_)
        refine e_iconst dX10_ring_53 (by unfold InR; decide) ?_
        refine e_istore_n (ls2 := [(3, vI 0), (0, vR x0), (1, vI x1), (2, vI x2)]) dX10_ring_54 (by decide) rfl ?_
        exact e_sub (ls2 := [(0, vR x0), (3, vI 0)]) [1, 0] rfl h
      · replace h := h.2 c
        refine e_iconst dX10_ring_41 (by unfold InR; decide) ?_
        exact e_zreturn dX10_ring_42 rfl (by decide) ⟨_, rfl, h⟩
set_option maxRecDepth 100000 in
set_option maxHeartbeats 4000000 in
theorem bX10_ring_55 {G : Gl} {S : Sh} {I : MI} {R : MR} {Q : Sh → MI → MR → Int → Prop} {x0 : Nat} {x3 : Int} (h : ((3 ≤ x3 → LX10_ring_75 G x0 0 S I R Q) ∧ (¬ (3 ≤ x3) → (sT S x0 = 10 ∧ (sT S (R x0 3) = 21 ∧ (((0 : Int) ≤ x3 ∧ x3 < (sL S (R x0 3) : Int)) ∧ (∀ I66, I66 = up2 I (R x0 3) (Int.toNat x3) 1 → LX10_ring_55 G x0 (w32 (x3 + 1)) S I66 R Q))))))) : LX10_ring_55 G x0 x3 S I R Q := by
  show E G MX10_ring 55 [(0, vR x0), (3, vI x3)] [] S I R (qI Q)
  refine e_iload_n 1 dX10_ring_55 rfl ?_
  refine e_iconst dX10_ring_56 (by unfold InR; decide) ?_
  refine e_icmp_ge (tgt := 73) dX10_ring_57 (by decide) (fun c => ?_) (fun c => ?_)
  · replace h := h.1 c
    refine e_iconst dX10_ring_73 (by unfold InR; decide) ?_
    refine e_istore_n (ls2 := [(3, vI 0), (0, vR x0)]) dX10_ring_74 (by decide) rfl ?_
    exact e_sub (ls2 := [(0, vR x0), (3, vI 0)]) [1, 0] rfl h
  · replace h := h.2 c
    refine e_aload_n 0 dX10_ring_60 rfl ?_
    have o3 := h.1
    replace h := h.2
    refine e_getR dX10_ring_61 flX10_16 rfl o3 ?_
    refine e_iload_n 1 dX10_ring_64 rfl ?_
    refine e_iconst dX10_ring_65 (by unfold InR; decide) ?_
    have o4 := h.1
    replace h := h.2
    have o5 := h.1
    replace h := h.2
    obtain ⟨I66, eI66⟩ : ∃ z : MI, z = up2 I (R x0 3) (Int.toNat x3) 1 := ⟨_, rfl⟩
    replace h := h I66 eI66
    refine e_iast dX10_ring_66 o4 o5 (eqI eI66 ?_)
    refine e_iinc (ls2 := [(3, vI (w32 (x3 + 1))), (0, vR x0)]) 1 dX10_ring_67 rfl (by decide) rfl ?_
    refine e_goto (tgt := 55) dX10_ring_70 (by decide) ?_
    exact e_sub (ls2 := [(0, vR x0), (3, vI (w32 (x3 + 1)))]) [1, 0] rfl h
set_option maxRecDepth 100000 in
set_option maxHeartbeats 4000000 in
theorem bX10_ring_75 {G : Gl} {S : Sh} {I : MI} {R : MR} {Q : Sh → MI → MR → Int → Prop} {x0 : Nat} {x3 : Int} (h : ((8 ≤ x3 → (sT S x0 = 10 ∧ (∀ I96, I96 = up2 I x0 20 0 → Q S I96 R 1))) ∧ (¬ (8 ≤ x3) → (sT S x0 = 10 ∧ (sT S (R x0 4) = 21 ∧ (((0 : Int) ≤ x3 ∧ x3 < (sL S (R x0 4) : Int)) ∧ (∀ I87, I87 = up2 I (R x0 4) (Int.toNat x3) 0 → LX10_ring_75 G x0 (w32 (x3 + 1)) S I87 R Q))))))) : LX10_ring_75 G x0 x3 S I R Q := by
  show E G MX10_ring 75 [(0, vR x0), (3, vI x3)] [] S I R (qI Q)
  refine e_iload_n 1 dX10_ring_75 rfl ?_
  refine e_bipush (x := 8) dX10_ring_76 ⟨by decide +kernel, by unfold InR; decide⟩ ?_
  refine e_icmp_ge (tgt := 94) dX10_ring_78 (by decide) (fun c => ?_) (fun c => ?_)
  · replace h := h.1 c
    refine e_aload_n 0 dX10_ring_94 rfl ?_
    refine e_iconst dX10_ring_95 (by unfold InR; decide) ?_
    have o6 := h.1
    replace h := h.2
    obtain ⟨I96, eI96⟩ : ∃ z : MI, z = up2 I x0 20 0 := ⟨_, rfl⟩
    replace h := h I96 eI96
    refine e_putZ dX10_ring_96 flX10_120 rfl (Or.inl rfl) o6 (by decide) (eqI eI96 ?_)
    refine e_iconst dX10_ring_99 (by unfold InR; decide) ?_
    exact e_zreturn dX10_ring_100 rfl (by decide) ⟨_, rfl, h⟩
  · replace h := h.2 c
    refine e_aload_n 0 dX10_ring_81 rfl ?_
    have o7 := h.1
    replace h := h.2
    refine e_getR dX10_ring_82 flX10_20 rfl o7 ?_
    refine e_iload_n 1 dX10_ring_85 rfl ?_
    refine e_iconst dX10_ring_86 (by unfold InR; decide) ?_
    have o8 := h.1
    replace h := h.2
    have o9 := h.1
    replace h := h.2
    obtain ⟨I87, eI87⟩ : ∃ z : MI, z = up2 I (R x0 4) (Int.toNat x3) 0 := ⟨_, rfl⟩
    replace h := h I87 eI87
    refine e_iast dX10_ring_87 o8 o9 (eqI eI87 ?_)
    refine e_iinc (ls2 := [(3, vI (w32 (x3 + 1))), (0, vR x0)]) 1 dX10_ring_88 rfl (by decide) rfl ?_
    refine e_goto (tgt := 75) dX10_ring_91 (by decide) ?_
    exact e_sub (ls2 := [(0, vR x0), (3, vI (w32 (x3 + 1)))]) [1, 0] rfl h

set_option maxRecDepth 100000 in
set_option maxHeartbeats 4000000 in
theorem bX10_sorts {G : Gl} {S : Sh} {I : MI} {R : MR} {Q : Sh → MI → MR → Prop} {x0 : Nat} {x1 : Int} (h : (sT S x0 = 10 ∧ (∀ I2, I2 = up2 I x0 9 0 → (CV G MX10_heapsRow [vR x0, vI x1, vI 1, vI 0, vI 0, vI 0] S I2 R (fun S11 I11 R11 => (sT S11 x0 = 10 ∧ (CI G MX10_takes [vR x0, vI x1] S11 I11 R11 (fun S16 I16 R16 x16_ => Q S16 I16 R16)))))))) : CV G MX10_sorts [vR x0, vI x1] S I R Q := by
  show E G MX10_sorts 0 [(0, vR x0), (1, vI x1)] [] S I R (qV Q)
  refine e_aload_n 0 dX10_sorts_0 rfl ?_
  refine e_iconst dX10_sorts_1 (by unfold InR; decide) ?_
  have o1 := h.1
  replace h := h.2
  obtain ⟨I2, eI2⟩ : ∃ z : MI, z = up2 I x0 9 0 := ⟨_, rfl⟩
  replace h := h I2 eI2
  refine e_putI dX10_sorts_2 flX10_93 rfl (Or.inl rfl) o1 (eqI eI2 ?_)
  refine e_aload_n 0 dX10_sorts_5 rfl ?_
  refine e_iload_n 1 dX10_sorts_6 rfl ?_
  refine e_iconst dX10_sorts_7 (by unfold InR; decide) ?_
  refine e_iconst dX10_sorts_8 (by unfold InR; decide) ?_
  refine e_iconst dX10_sorts_9 (by unfold InR; decide) ?_
  refine e_iconst dX10_sorts_10 (by unfold InR; decide) ?_
  refine i_VV (μ' := MX10_heapsRow) (ci := 9) (r := x0) (as := [vI x1, vI 1, vI 0, vI 0, vI 0]) (st := []) rfl dX10_sorts_11 mOKX10_heapsRow ⟨mlX10_124, imX10_heapsRow, seX10_heapsRow⟩ (by decide) (Nat.le_of_ble_eq_true rfl) rfl (Nat.le_of_ble_eq_true rfl) ⟨by decide, rfl⟩ o1 (CV.mono h ?_)
  clear h
  intro S11 I11 R11 h
  refine e_aload_n 0 dX10_sorts_14 rfl ?_
  refine e_iload_n 1 dX10_sorts_15 rfl ?_
  have o2 := h.1
  replace h := h.2
  refine i_VI (μ' := MX10_takes) (ci := 9) (r := x0) (as := [vI x1]) (st := []) rfl dX10_sorts_16 mOKX10_takes ⟨mlX10_128, imX10_takes, seX10_takes⟩ (by decide) (Nat.le_of_ble_eq_true rfl) rfl (Nat.le_of_ble_eq_true rfl) ⟨by decide, rfl⟩ o2 (CI.mono h ?_)
  clear h
  intro S16 I16 R16 x16_ h
  refine e_istore_n (ls2 := [(2, vI x16_), (0, vR x0), (1, vI x1)]) dX10_sorts_19 (by decide) rfl ?_
  exact e_return dX10_sorts_20 rfl ⟨rfl, h⟩

def LX10_weights_70 (G : Gl) (x0 : Nat) (x4 : Int) (S : Sh) (I : MI) (R : MR) (Q : Sh → MI → MR → Int → Prop) : Prop := E G MX10_weights 70 [(0, vR x0), (4, vI x4)] [] S I R (qI Q)
set_option maxRecDepth 100000 in
set_option maxHeartbeats 4000000 in
theorem bX10_weights {G : Gl} {S : Sh} {I : MI} {R : MR} {Q : Sh → MI → MR → Int → Prop} {x0 : Nat} {x1 : Int} {x2 : Int} {x3 : Int} (h : (sT S x0 = 10 ∧ (∀ I2, I2 = up2 I x0 0 0 → (((vX10_isIn x0 x1 1 4) = 0 → Q S I2 R 0) ∧ (¬ ((vX10_isIn x0 x1 1 4) = 0) → (((vX10_isIn x0 x2 1 4) = 0 → Q S I2 R 0) ∧ (¬ ((vX10_isIn x0 x2 1 4) = 0) → (((vX10_isIn x0 x3 1 4) ≠ 0 → (sT S (R x0 3) = 21 ∧ (((0 : Int) ≤ 0 ∧ 0 < (sL S (R x0 3) : Int)) ∧ (∀ I52, I52 = up2 I2 (R x0 3) (Int.toNat 0) x1 → (((0 : Int) ≤ 1 ∧ 1 < (sL S (R x0 3) : Int)) ∧ (∀ I59, I59 = up2 I52 (R x0 3) (Int.toNat 1) x2 → (((0 : Int) ≤ 2 ∧ 2 < (sL S (R x0 3) : Int)) ∧ (∀ I66, I66 = up2 I59 (R x0 3) (Int.toNat 2) x3 → LX10_weights_70 G x0 0 S I66 R Q)))))))) ∧ (¬ ((vX10_isIn x0 x3 1 4) ≠ 0) → Q S I2 R 0))))))))) : CI G MX10_weights [vR x0, vI x1, vI x2, vI x3] S I R Q := by
  show E G MX10_weights 0 [(0, vR x0), (1, vI x1), (2, vI x2), (3, vI x3)] [] S I R (qI Q)
  refine e_aload_n 0 dX10_weights_0 rfl ?_
  refine e_iconst dX10_weights_1 (by unfold InR; decide) ?_
  have o1 := h.1
  replace h := h.2
  obtain ⟨I2, eI2⟩ : ∃ z : MI, z = up2 I x0 0 0 := ⟨_, rfl⟩
  replace h := h I2 eI2
  refine e_putI dX10_weights_2 flX10_65 rfl (Or.inl rfl) o1 (eqI eI2 ?_)
  refine e_aload_n 0 dX10_weights_5 rfl ?_
  refine e_iload_n 1 dX10_weights_6 rfl ?_
  refine e_i2l dX10_weights_7 ?_
  refine e_lconst (x := 1) dX10_weights_8 ⟨by decide +kernel, by unfold InL; decide⟩ ?_
  refine e_ldc2 (x := 4) dX10_weights_9 cnX10_131 (by unfold InL; decide) ?_
  refine i_VI (μ' := MX10_isIn) (ci := 9) (r := x0) (as := [vL x1, vL 1, vL 4]) (st := []) rfl dX10_weights_12 mOKX10_isIn ⟨mlX10_106, imX10_isIn, seX10_isIn⟩ (by decide) (Nat.le_of_ble_eq_true rfl) rfl (Nat.le_of_ble_eq_true rfl) ⟨by decide, rfl⟩ o1 (sX10_isIn ?_)
  refine e_if_eq (tgt := 44) dX10_weights_15 (by decide) (fun c => ?_) (fun c => ?_)
  · replace h := h.1 c
    refine e_iconst dX10_weights_44 (by unfold InR; decide) ?_
    exact e_zreturn dX10_weights_45 rfl (by decide) ⟨_, rfl, h⟩
  · replace h := h.2 c
    refine e_aload_n 0 dX10_weights_18 rfl ?_
    refine e_iload_n 2 dX10_weights_19 rfl ?_
    refine e_i2l dX10_weights_20 ?_
    refine e_lconst (x := 1) dX10_weights_21 ⟨by decide +kernel, by unfold InL; decide⟩ ?_
    refine e_ldc2 (x := 4) dX10_weights_22 cnX10_131 (by unfold InL; decide) ?_
    refine i_VI (μ' := MX10_isIn) (ci := 9) (r := x0) (as := [vL x2, vL 1, vL 4]) (st := []) rfl dX10_weights_25 mOKX10_isIn ⟨mlX10_106, imX10_isIn, seX10_isIn⟩ (by decide) (Nat.le_of_ble_eq_true rfl) rfl (Nat.le_of_ble_eq_true rfl) ⟨by decide, rfl⟩ o1 (sX10_isIn ?_)
    refine e_if_eq (tgt := 44) dX10_weights_28 (by decide) (fun c => ?_) (fun c => ?_)
    · replace h := h.1 c
      refine e_iconst dX10_weights_44 (by unfold InR; decide) ?_
      exact e_zreturn dX10_weights_45 rfl (by decide) ⟨_, rfl, h⟩
    · replace h := h.2 c
      refine e_aload_n 0 dX10_weights_31 rfl ?_
      refine e_iload_n 3 dX10_weights_32 rfl ?_
      refine e_i2l dX10_weights_33 ?_
      refine e_lconst (x := 1) dX10_weights_34 ⟨by decide +kernel, by unfold InL; decide⟩ ?_
      refine e_ldc2 (x := 4) dX10_weights_35 cnX10_131 (by unfold InL; decide) ?_
      refine i_VI (μ' := MX10_isIn) (ci := 9) (r := x0) (as := [vL x3, vL 1, vL 4]) (st := []) rfl dX10_weights_38 mOKX10_isIn ⟨mlX10_106, imX10_isIn, seX10_isIn⟩ (by decide) (Nat.le_of_ble_eq_true rfl) rfl (Nat.le_of_ble_eq_true rfl) ⟨by decide, rfl⟩ o1 (sX10_isIn ?_)
      refine e_if_ne (tgt := 46) dX10_weights_41 (by decide) (fun c => ?_) (fun c => ?_)
      · replace h := h.1 c
        refine e_aload_n 0 dX10_weights_46 rfl ?_
        refine e_getR dX10_weights_47 flX10_16 rfl o1 ?_
        refine e_iconst dX10_weights_50 (by unfold InR; decide) ?_
        refine e_iload_n 1 dX10_weights_51 rfl ?_
        have o2 := h.1
        replace h := h.2
        have o3 := h.1
        replace h := h.2
        obtain ⟨I52, eI52⟩ : ∃ z : MI, z = up2 I2 (R x0 3) (Int.toNat 0) x1 := ⟨_, rfl⟩
        replace h := h I52 eI52
        refine e_iast dX10_weights_52 o2 o3 (eqI eI52 ?_)
        refine e_aload_n 0 dX10_weights_53 rfl ?_
        refine e_getR dX10_weights_54 flX10_16 rfl o1 ?_
        refine e_iconst dX10_weights_57 (by unfold InR; decide) ?_
        refine e_iload_n 2 dX10_weights_58 rfl ?_
        have o4 := h.1
        replace h := h.2
        obtain ⟨I59, eI59⟩ : ∃ z : MI, z = up2 I52 (R x0 3) (Int.toNat 1) x2 := ⟨_, rfl⟩
        replace h := h I59 eI59
        refine e_iast dX10_weights_59 o2 o4 (eqI eI59 ?_)
        refine e_aload_n 0 dX10_weights_60 rfl ?_
        refine e_getR dX10_weights_61 flX10_16 rfl o1 ?_
        refine e_iconst dX10_weights_64 (by unfold InR; decide) ?_
        refine e_iload_n 3 dX10_weights_65 rfl ?_
        have o5 := h.1
        replace h := h.2
        obtain ⟨I66, eI66⟩ : ∃ z : MI, z = up2 I59 (R x0 3) (Int.toNat 2) x3 := ⟨_, rfl⟩
        replace h := h I66 eI66
        refine e_iast dX10_weights_66 o2 o5 (eqI eI66 ?_)
        refine e_iconst dX10_weights_67 (by unfold InR; decide) ?_
        refine e_istore (ls2 := [(4, vI 0), (0, vR x0), (1, vI x1), (2, vI x2), (3, vI x3)]) dX10_weights_68 (by decide) rfl ?_
        exact e_sub (ls2 := [(0, vR x0), (4, vI 0)]) [1, 0] rfl h
      · replace h := h.2 c
        refine e_iconst dX10_weights_44 (by unfold InR; decide) ?_
        exact e_zreturn dX10_weights_45 rfl (by decide) ⟨_, rfl, h⟩
set_option maxRecDepth 100000 in
set_option maxHeartbeats 4000000 in
theorem bX10_weights_70 {G : Gl} {S : Sh} {I : MI} {R : MR} {Q : Sh → MI → MR → Int → Prop} {x0 : Nat} {x4 : Int} (h : ((8 ≤ x4 → (sT S x0 = 10 ∧ (∀ I91, I91 = up2 I x0 20 0 → Q S I91 R 1))) ∧ (¬ (8 ≤ x4) → (sT S x0 = 10 ∧ (CV G MX10_sorts [vR x0, vI x4] S I R (fun S80 I80 R80 => LX10_weights_70 G x0 (w32 (x4 + 1)) S80 I80 R80 Q)))))) : LX10_weights_70 G x0 x4 S I R Q := by
  show E G MX10_weights 70 [(0, vR x0), (4, vI x4)] [] S I R (qI Q)
  refine e_iload 1 dX10_weights_70 rfl ?_
  refine e_bipush (x := 8) dX10_weights_72 ⟨by decide +kernel, by unfold InR; decide⟩ ?_
  refine e_icmp_ge (tgt := 89) dX10_weights_74 (by decide) (fun c => ?_) (fun c => ?_)
  · replace h := h.1 c
    refine e_aload_n 0 dX10_weights_89 rfl ?_
    refine e_iconst dX10_weights_90 (by unfold InR; decide) ?_
    have o6 := h.1
    replace h := h.2
    obtain ⟨I91, eI91⟩ : ∃ z : MI, z = up2 I x0 20 0 := ⟨_, rfl⟩
    replace h := h I91 eI91
    refine e_putZ dX10_weights_91 flX10_120 rfl (Or.inl rfl) o6 (by decide) (eqI eI91 ?_)
    refine e_iconst dX10_weights_94 (by unfold InR; decide) ?_
    exact e_zreturn dX10_weights_95 rfl (by decide) ⟨_, rfl, h⟩
  · replace h := h.2 c
    refine e_aload_n 0 dX10_weights_77 rfl ?_
    refine e_iload 1 dX10_weights_78 rfl ?_
    have o7 := h.1
    replace h := h.2
    refine i_VV (μ' := MX10_sorts) (ci := 9) (r := x0) (as := [vI x4]) (st := []) rfl dX10_weights_80 mOKX10_sorts ⟨mlX10_133, imX10_sorts, seX10_sorts⟩ (by decide) (Nat.le_of_ble_eq_true rfl) rfl (Nat.le_of_ble_eq_true rfl) ⟨by decide, rfl⟩ o7 (CV.mono h ?_)
    clear h
    intro S80 I80 R80 h
    refine e_iinc (ls2 := [(4, vI (w32 (x4 + 1))), (0, vR x0)]) 1 dX10_weights_83 rfl (by decide) rfl ?_
    refine e_goto (tgt := 70) dX10_weights_86 (by decide) ?_
    exact e_sub (ls2 := [(0, vR x0), (4, vI (w32 (x4 + 1)))]) [1, 0] rfl h

def vX10_see (I : MI) (R : MR) (x0 : Nat) (x1 : Int) : Int := (if (I x0 11) ≤ x1 then (-1) else (iand (I (R x0 10) (Int.toNat x1)) 255))
def pX10_see (S : Sh) (I : MI) (R : MR) (x0 : Nat) (x1 : Int) : Prop := (sT S x0 = 10 ∧ (((I x0 11) ≤ x1 → True) ∧ (¬ ((I x0 11) ≤ x1) → (sT S (R x0 10) = 22 ∧ (((0 : Int) ≤ x1 ∧ x1 < (sL S (R x0 10) : Int)) ∧ True)))))
set_option maxRecDepth 100000 in
set_option maxHeartbeats 4000000 in
theorem sX10_see {G : Gl} {S : Sh} {I : MI} {R : MR} {Q : Sh → MI → MR → Int → Prop} {x0 : Nat} {x1 : Int} (hp : pX10_see S I R x0 x1) (hq : Q S I R (vX10_see I R x0 x1)) : CI G MX10_see [vR x0, vI x1] S I R Q := by
  show E G MX10_see 0 [(0, vR x0), (1, vI x1)] [] S I R (qI Q)
  unfold vX10_see at hq
  unfold pX10_see at hp
  refine e_iload_n 1 dX10_see_0 rfl ?_
  refine e_aload_n 0 dX10_see_1 rfl ?_
  have o1 := hp.1
  replace hp := hp.2
  refine e_getI dX10_see_2 flX10_137 rfl o1 ?_
  refine e_icmp_ge (tgt := 21) dX10_see_5 (by decide) (fun c => ?_) (fun c => ?_)
  · rw [if_pos c] at hq
    replace hp := hp.1 c
    refine e_iconst dX10_see_21 (by unfold InR; decide) ?_
    exact e_ireturn dX10_see_22 rfl ⟨_, rfl, hq⟩
  · rw [if_neg c] at hq
    replace hp := hp.2 c
    refine e_aload_n 0 dX10_see_8 rfl ?_
    refine e_getR dX10_see_9 flX10_36 rfl o1 ?_
    refine e_iload_n 1 dX10_see_12 rfl ?_
    have o2 := hp.1
    replace hp := hp.2
    have o3 := hp.1
    replace hp := hp.2
    refine e_bald dX10_see_13 o2 o3 ?_
    refine e_sipush (x := 255) dX10_see_14 ⟨by decide +kernel, by unfold InR; decide⟩ ?_
    refine e_iand dX10_see_17 ?_
    refine e_goto (tgt := 22) dX10_see_18 (by decide) ?_
    exact e_ireturn dX10_see_22 rfl ⟨_, rfl, hq⟩

def vX10_isDigit  (x0 : Nat) (x1 : Int) : Int := (vX10_isIn x0 x1 48 57)
def pX10_isDigit (S : Sh) (x0 : Nat) (x1 : Int) : Prop := (sT S x0 = 10 ∧ (((vX10_isIn x0 x1 48 57) = 0 ∨ (vX10_isIn x0 x1 48 57) = 1) ∧ True))
set_option maxRecDepth 100000 in
set_option maxHeartbeats 4000000 in
theorem sX10_isDigit {G : Gl} {S : Sh} {I : MI} {R : MR} {Q : Sh → MI → MR → Int → Prop} {x0 : Nat} {x1 : Int} (hp : pX10_isDigit S x0 x1) (hq : Q S I R (vX10_isDigit x0 x1)) : CI G MX10_isDigit [vR x0, vI x1] S I R Q := by
  show E G MX10_isDigit 0 [(0, vR x0), (1, vI x1)] [] S I R (qI Q)
  unfold vX10_isDigit at hq
  unfold pX10_isDigit at hp
  refine e_aload_n 0 dX10_isDigit_0 rfl ?_
  refine e_iload_n 1 dX10_isDigit_1 rfl ?_
  refine e_i2l dX10_isDigit_2 ?_
  refine e_ldc2 (x := 48) dX10_isDigit_3 cnX10_140 (by unfold InL; decide) ?_
  refine e_ldc2 (x := 57) dX10_isDigit_6 cnX10_142 (by unfold InL; decide) ?_
  have o1 := hp.1
  replace hp := hp.2
  refine i_VI (μ' := MX10_isIn) (ci := 9) (r := x0) (as := [vL x1, vL 48, vL 57]) (st := []) rfl dX10_isDigit_9 mOKX10_isIn ⟨mlX10_106, imX10_isIn, seX10_isIn⟩ (by decide) (Nat.le_of_ble_eq_true rfl) rfl (Nat.le_of_ble_eq_true rfl) ⟨by decide, rfl⟩ o1 (sX10_isIn ?_)
  have o2 := hp.1
  replace hp := hp.2
  exact e_zreturn dX10_isDigit_12 rfl o2 ⟨_, rfl, hq⟩

def LX10_skips_0 (G : Gl) (x0 : Nat) (S : Sh) (I : MI) (R : MR) (Q : Sh → MI → MR → Prop) : Prop := E G MX10_skips 0 [(0, vR x0)] [] S I R (qV Q)
theorem bX10_skips {G : Gl} {S : Sh} {I : MI} {R : MR} {Q : Sh → MI → MR → Prop} {x0 : Nat} (h : LX10_skips_0 G x0 S I R Q) : CV G MX10_skips [vR x0] S I R Q := h
set_option maxRecDepth 100000 in
set_option maxHeartbeats 4000000 in
theorem bX10_skips_0 {G : Gl} {S : Sh} {I : MI} {R : MR} {Q : Sh → MI → MR → Prop} {x0 : Nat} (h : (sT S x0 = 10 ∧ ((pX10_see S I R x0 (I x0 12)) ∧ (((vX10_see I R x0 (I x0 12)) ≠ 32 → Q S I R) ∧ (¬ ((vX10_see I R x0 (I x0 12)) ≠ 32) → (∀ I20, I20 = up2 I x0 12 (w32 ((I x0 12) + 1)) → LX10_skips_0 G x0 S I20 R Q)))))) : LX10_skips_0 G x0 S I R Q := by
  show E G MX10_skips 0 [(0, vR x0)] [] S I R (qV Q)
  refine e_aload_n 0 dX10_skips_0 rfl ?_
  refine e_aload_n 0 dX10_skips_1 rfl ?_
  have o1 := h.1
  replace h := h.2
  refine e_getI dX10_skips_2 flX10_144 rfl o1 ?_
  have o2 := h.1
  replace h := h.2
  refine i_VI (μ' := MX10_see) (ci := 9) (r := x0) (as := [vI (I x0 12)]) (st := []) rfl dX10_skips_5 mOKX10_see ⟨mlX10_147, imX10_see, seX10_see⟩ (by decide) (Nat.le_of_ble_eq_true rfl) rfl (Nat.le_of_ble_eq_true rfl) ⟨by decide, rfl⟩ o1 (sX10_see o2 ?_)
  refine e_bipush (x := 32) dX10_skips_8 ⟨by decide +kernel, by unfold InR; decide⟩ ?_
  refine e_icmp_ne (tgt := 26) dX10_skips_10 (by decide) (fun c => ?_) (fun c => ?_)
  · replace h := h.1 c
    exact e_return dX10_skips_26 rfl ⟨rfl, h⟩
  · replace h := h.2 c
    refine e_aload_n 0 dX10_skips_13 rfl ?_
    refine e_aload_n 0 dX10_skips_14 rfl ?_
    refine e_getI dX10_skips_15 flX10_144 rfl o1 ?_
    refine e_iconst dX10_skips_18 (by unfold InR; decide) ?_
    refine e_iadd dX10_skips_19 ?_
    obtain ⟨I20, eI20⟩ : ∃ z : MI, z = up2 I x0 12 (w32 ((I x0 12) + 1)) := ⟨_, rfl⟩
    replace h := h I20 eI20
    refine e_putI dX10_skips_20 flX10_144 rfl (Or.inl rfl) o1 (eqI eI20 ?_)
    refine e_goto (tgt := 0) dX10_skips_23 (by decide) ?_
    exact e_sub (ls2 := [(0, vR x0)]) [0] rfl h

set_option maxRecDepth 100000 in
set_option maxHeartbeats 4000000 in
theorem bX10_faultyAt {G : Gl} {S : Sh} {I : MI} {R : MR} {Q : Sh → MI → MR → Prop} {x0 : Nat} {x1 : Int} {x2 : Int} (h : (sT S x0 = 10 ∧ (((I x0 13) = 0 → (∀ I10, I10 = up2 I x0 13 1 → (∀ I15, I15 = up2 I10 x0 14 x1 → (∀ I20, I20 = up2 I15 x0 15 x2 → Q S I20 R)))) ∧ (¬ ((I x0 13) = 0) → Q S I R)))) : CV G MX10_faultyAt [vR x0, vI x1, vI x2] S I R Q := by
  show E G MX10_faultyAt 0 [(0, vR x0), (1, vI x1), (2, vI x2)] [] S I R (qV Q)
  refine e_aload_n 0 dX10_faultyAt_0 rfl ?_
  have o1 := h.1
  replace h := h.2
  refine e_getI dX10_faultyAt_1 flX10_150 rfl o1 ?_
  refine e_if_eq (tgt := 8) dX10_faultyAt_4 (by decide) (fun c => ?_) (fun c => ?_)
  · replace h := h.1 c
    refine e_aload_n 0 dX10_faultyAt_8 rfl ?_
    refine e_iconst dX10_faultyAt_9 (by unfold InR; decide) ?_
    obtain ⟨I10, eI10⟩ : ∃ z : MI, z = up2 I x0 13 1 := ⟨_, rfl⟩
    replace h := h I10 eI10
    refine e_putZ dX10_faultyAt_10 flX10_150 rfl (Or.inl rfl) o1 (by decide) (eqI eI10 ?_)
    refine e_aload_n 0 dX10_faultyAt_13 rfl ?_
    refine e_iload_n 1 dX10_faultyAt_14 rfl ?_
    obtain ⟨I15, eI15⟩ : ∃ z : MI, z = up2 I10 x0 14 x1 := ⟨_, rfl⟩
    replace h := h I15 eI15
    refine e_putI dX10_faultyAt_15 flX10_153 rfl (Or.inl rfl) o1 (eqI eI15 ?_)
    refine e_aload_n 0 dX10_faultyAt_18 rfl ?_
    refine e_iload_n 2 dX10_faultyAt_19 rfl ?_
    obtain ⟨I20, eI20⟩ : ∃ z : MI, z = up2 I15 x0 15 x2 := ⟨_, rfl⟩
    replace h := h I20 eI20
    refine e_putI dX10_faultyAt_20 flX10_40 rfl (Or.inl rfl) o1 (eqI eI20 ?_)
    exact e_return dX10_faultyAt_23 rfl ⟨rfl, h⟩
  · replace h := h.2 c
    exact e_return dX10_faultyAt_7 rfl ⟨rfl, h⟩

def vX10_variableHere (I : MI) (R : MR) (x0 : Nat) : Int := (if (vX10_see I R x0 (I x0 12)) ≠ 120 then (if (vX10_see I R x0 (I x0 12)) ≠ 121 then (if (vX10_see I R x0 (I x0 12)) ≠ 122 then (if (I x0 1) ≤ (-1) then (-1) else (-1)) else (if (I x0 1) ≤ 2 then (-1) else 2)) else (if (I x0 1) ≤ 1 then (-1) else 1)) else (if (I x0 1) ≤ 0 then (-1) else 0))
def pX10_variableHere (S : Sh) (I : MI) (R : MR) (x0 : Nat) : Prop := (sT S x0 = 10 ∧ ((pX10_see S I R x0 (I x0 12)) ∧ True))
set_option maxRecDepth 100000 in
set_option maxHeartbeats 4000000 in
theorem sX10_variableHere {G : Gl} {S : Sh} {I : MI} {R : MR} {Q : Sh → MI → MR → Int → Prop} {x0 : Nat} (hp : pX10_variableHere S I R x0) (hq : Q S I R (vX10_variableHere I R x0)) : CI G MX10_variableHere [vR x0] S I R Q := by
  show E G MX10_variableHere 0 [(0, vR x0)] [] S I R (qI Q)
  unfold vX10_variableHere at hq
  unfold pX10_variableHere at hp
  refine e_aload_n 0 dX10_variableHere_0 rfl ?_
  refine e_aload_n 0 dX10_variableHere_1 rfl ?_
  have o1 := hp.1
  replace hp := hp.2
  refine e_getI dX10_variableHere_2 flX10_144 rfl o1 ?_
  have o2 := hp.1
  replace hp := hp.2
  refine i_VI (μ' := MX10_see) (ci := 9) (r := x0) (as := [vI (I x0 12)]) (st := []) rfl dX10_variableHere_5 mOKX10_see ⟨mlX10_147, imX10_see, seX10_see⟩ (by decide) (Nat.le_of_ble_eq_true rfl) rfl (Nat.le_of_ble_eq_true rfl) ⟨by decide, rfl⟩ o1 (sX10_see o2 ?_)
  refine e_bipush (x := 120) dX10_variableHere_8 ⟨by decide +kernel, by unfold InR; decide⟩ ?_
  refine e_icmp_ne (tgt := 17) dX10_variableHere_10 (by decide) (fun c => ?_) (fun c => ?_)
  · rw [if_pos c] at hq
    refine e_aload_n 0 dX10_variableHere_17 rfl ?_
    refine e_aload_n 0 dX10_variableHere_18 rfl ?_
    refine e_getI dX10_variableHere_19 flX10_144 rfl o1 ?_
    refine i_VI (μ' := MX10_see) (ci := 9) (r := x0) (as := [vI (I x0 12)]) (st := []) rfl dX10_variableHere_22 mOKX10_see ⟨mlX10_147, imX10_see, seX10_see⟩ (by decide) (Nat.le_of_ble_eq_true rfl) rfl (Nat.le_of_ble_eq_true rfl) ⟨by decide, rfl⟩ o1 (sX10_see o2 ?_)
    refine e_bipush (x := 121) dX10_variableHere_25 ⟨by decide +kernel, by unfold InR; decide⟩ ?_
    refine e_icmp_ne (tgt := 34) dX10_variableHere_27 (by decide) (fun c => ?_) (fun c => ?_)
    · rw [if_pos c] at hq
      refine e_aload_n 0 dX10_variableHere_34 rfl ?_
      refine e_aload_n 0 dX10_variableHere_35 rfl ?_
      refine e_getI dX10_variableHere_36 flX10_144 rfl o1 ?_
      refine i_VI (μ' := MX10_see) (ci := 9) (r := x0) (as := [vI (I x0 12)]) (st := []) rfl dX10_variableHere_39 mOKX10_see ⟨mlX10_147, imX10_see, seX10_see⟩ (by decide) (Nat.le_of_ble_eq_true rfl) rfl (Nat.le_of_ble_eq_true rfl) ⟨by decide, rfl⟩ o1 (sX10_see o2 ?_)
      refine e_bipush (x := 122) dX10_variableHere_42 ⟨by decide +kernel, by unfold InR; decide⟩ ?_
      refine e_icmp_ne (tgt := 51) dX10_variableHere_44 (by decide) (fun c => ?_) (fun c => ?_)
      · rw [if_pos c] at hq
        refine e_iconst dX10_variableHere_51 (by unfold InR; decide) ?_
        refine e_istore_n (ls2 := [(1, vI (-1)), (0, vR x0)]) dX10_variableHere_52 (by decide) rfl ?_
        refine e_iload_n 0 dX10_variableHere_53 rfl ?_
        refine e_aload_n 1 dX10_variableHere_54 rfl ?_
        refine e_getI dX10_variableHere_55 flX10_7 rfl o1 ?_
        refine e_icmp_ge (tgt := 65) dX10_variableHere_58 (by decide) (fun c => ?_) (fun c => ?_)
        · rw [if_pos c] at hq
          refine e_iconst dX10_variableHere_65 (by unfold InR; decide) ?_
          exact e_ireturn dX10_variableHere_66 rfl ⟨_, rfl, hq⟩
        · rw [if_neg c] at hq
          refine e_iload_n 0 dX10_variableHere_61 rfl ?_
          refine e_goto (tgt := 66) dX10_variableHere_62 (by decide) ?_
          exact e_ireturn dX10_variableHere_66 rfl ⟨_, rfl, hq⟩
      · rw [if_neg c] at hq
        refine e_iconst dX10_variableHere_47 (by unfold InR; decide) ?_
        refine e_goto (tgt := 52) dX10_variableHere_48 (by decide) ?_
        refine e_istore_n (ls2 := [(1, vI 2), (0, vR x0)]) dX10_variableHere_52 (by decide) rfl ?_
        refine e_iload_n 0 dX10_variableHere_53 rfl ?_
        refine e_aload_n 1 dX10_variableHere_54 rfl ?_
        refine e_getI dX10_variableHere_55 flX10_7 rfl o1 ?_
        refine e_icmp_ge (tgt := 65) dX10_variableHere_58 (by decide) (fun c => ?_) (fun c => ?_)
        · rw [if_pos c] at hq
          refine e_iconst dX10_variableHere_65 (by unfold InR; decide) ?_
          exact e_ireturn dX10_variableHere_66 rfl ⟨_, rfl, hq⟩
        · rw [if_neg c] at hq
          refine e_iload_n 0 dX10_variableHere_61 rfl ?_
          refine e_goto (tgt := 66) dX10_variableHere_62 (by decide) ?_
          exact e_ireturn dX10_variableHere_66 rfl ⟨_, rfl, hq⟩
    · rw [if_neg c] at hq
      refine e_iconst dX10_variableHere_30 (by unfold InR; decide) ?_
      refine e_goto (tgt := 52) dX10_variableHere_31 (by decide) ?_
      refine e_istore_n (ls2 := [(1, vI 1), (0, vR x0)]) dX10_variableHere_52 (by decide) rfl ?_
      refine e_iload_n 0 dX10_variableHere_53 rfl ?_
      refine e_aload_n 1 dX10_variableHere_54 rfl ?_
      refine e_getI dX10_variableHere_55 flX10_7 rfl o1 ?_
      refine e_icmp_ge (tgt := 65) dX10_variableHere_58 (by decide) (fun c => ?_) (fun c => ?_)
      · rw [if_pos c] at hq
        refine e_iconst dX10_variableHere_65 (by unfold InR; decide) ?_
        exact e_ireturn dX10_variableHere_66 rfl ⟨_, rfl, hq⟩
      · rw [if_neg c] at hq
        refine e_iload_n 0 dX10_variableHere_61 rfl ?_
        refine e_goto (tgt := 66) dX10_variableHere_62 (by decide) ?_
        exact e_ireturn dX10_variableHere_66 rfl ⟨_, rfl, hq⟩
  · rw [if_neg c] at hq
    refine e_iconst dX10_variableHere_13 (by unfold InR; decide) ?_
    refine e_goto (tgt := 52) dX10_variableHere_14 (by decide) ?_
    refine e_istore_n (ls2 := [(1, vI 0), (0, vR x0)]) dX10_variableHere_52 (by decide) rfl ?_
    refine e_iload_n 0 dX10_variableHere_53 rfl ?_
    refine e_aload_n 1 dX10_variableHere_54 rfl ?_
    refine e_getI dX10_variableHere_55 flX10_7 rfl o1 ?_
    refine e_icmp_ge (tgt := 65) dX10_variableHere_58 (by decide) (fun c => ?_) (fun c => ?_)
    · rw [if_pos c] at hq
      refine e_iconst dX10_variableHere_65 (by unfold InR; decide) ?_
      exact e_ireturn dX10_variableHere_66 rfl ⟨_, rfl, hq⟩
    · rw [if_neg c] at hq
      refine e_iload_n 0 dX10_variableHere_61 rfl ?_
      refine e_goto (tgt := 66) dX10_variableHere_62 (by decide) ?_
      exact e_ireturn dX10_variableHere_66 rfl ⟨_, rfl, hq⟩

def vX10_isFactor (I : MI) (R : MR) (x0 : Nat) : Int := (if (I x0 13) ≠ 0 then 0 else (if (vX10_isDigit x0 (vX10_see I R x0 (I x0 12))) ≠ 0 then 1 else (if (vX10_variableHere I R x0) = (-1) then 0 else 1)))
def pX10_isFactor (S : Sh) (I : MI) (R : MR) (x0 : Nat) : Prop := (sT S x0 = 10 ∧ (((I x0 13) ≠ 0 → True) ∧ (¬ ((I x0 13) ≠ 0) → ((pX10_see S I R x0 (I x0 12)) ∧ ((pX10_isDigit S x0 (vX10_see I R x0 (I x0 12))) ∧ (((vX10_isDigit x0 (vX10_see I R x0 (I x0 12))) ≠ 0 → True) ∧ (¬ ((vX10_isDigit x0 (vX10_see I R x0 (I x0 12))) ≠ 0) → ((pX10_variableHere S I R x0) ∧ True))))))))
set_option maxRecDepth 100000 in
set_option maxHeartbeats 4000000 in
theorem sX10_isFactor {G : Gl} {S : Sh} {I : MI} {R : MR} {Q : Sh → MI → MR → Int → Prop} {x0 : Nat} (hp : pX10_isFactor S I R x0) (hq : Q S I R (vX10_isFactor I R x0)) : CI G MX10_isFactor [vR x0] S I R Q := by
  show E G MX10_isFactor 0 [(0, vR x0)] [] S I R (qI Q)
  unfold vX10_isFactor at hq
  unfold pX10_isFactor at hp
  refine e_aload_n 0 dX10_isFactor_0 rfl ?_
  have o1 := hp.1
  replace hp := hp.2
  refine e_getI dX10_isFactor_1 flX10_150 rfl o1 ?_
  refine e_if_ne (tgt := 34) dX10_isFactor_4 (by decide) (fun c => ?_) (fun c => ?_)
  · rw [if_pos c] at hq
    replace hp := hp.1 c
    refine e_iconst dX10_isFactor_34 (by unfold InR; decide) ?_
    exact e_zreturn dX10_isFactor_35 rfl (by decide) ⟨_, rfl, hq⟩
  · rw [if_neg c] at hq
    replace hp := hp.2 c
    refine e_aload_n 0 dX10_isFactor_7 rfl ?_
    refine e_aload_n 0 dX10_isFactor_8 rfl ?_
    refine e_aload_n 0 dX10_isFactor_9 rfl ?_
    refine e_getI dX10_isFactor_10 flX10_144 rfl o1 ?_
    have o2 := hp.1
    replace hp := hp.2
    refine i_VI (μ' := MX10_see) (ci := 9) (r := x0) (as := [vI (I x0 12)]) (st := [vR x0]) rfl dX10_isFactor_13 mOKX10_see ⟨mlX10_147, imX10_see, seX10_see⟩ (by decide) (Nat.le_of_ble_eq_true rfl) rfl (Nat.le_of_ble_eq_true rfl) ⟨by decide, rfl⟩ o1 (sX10_see o2 ?_)
    have o3 := hp.1
    replace hp := hp.2
    refine i_VI (μ' := MX10_isDigit) (ci := 9) (r := x0) (as := [vI (vX10_see I R x0 (I x0 12))]) (st := []) rfl dX10_isFactor_16 mOKX10_isDigit ⟨mlX10_156, imX10_isDigit, seX10_isDigit⟩ (by decide) (Nat.le_of_ble_eq_true rfl) rfl (Nat.le_of_ble_eq_true rfl) ⟨by decide, rfl⟩ o1 (sX10_isDigit o3 ?_)
    refine e_if_ne (tgt := 30) dX10_isFactor_19 (by decide) (fun c => ?_) (fun c => ?_)
    · rw [if_pos c] at hq
      replace hp := hp.1 c
      refine e_iconst dX10_isFactor_30 (by unfold InR; decide) ?_
      refine e_goto (tgt := 35) dX10_isFactor_31 (by decide) ?_
      exact e_zreturn dX10_isFactor_35 rfl (by decide) ⟨_, rfl, hq⟩
    · rw [if_neg c] at hq
      replace hp := hp.2 c
      refine e_aload_n 0 dX10_isFactor_22 rfl ?_
      have o4 := hp.1
      replace hp := hp.2
      refine i_VI (μ' := MX10_variableHere) (ci := 9) (r := x0) (as := []) (st := []) rfl dX10_isFactor_23 mOKX10_variableHere ⟨mlX10_159, imX10_variableHere, seX10_variableHere⟩ (by decide) (Nat.le_of_ble_eq_true rfl) rfl (Nat.le_of_ble_eq_true rfl) ⟨by decide, rfl⟩ o1 (sX10_variableHere o4 ?_)
      refine e_iconst dX10_isFactor_26 (by unfold InR; decide) ?_
      refine e_icmp_eq (tgt := 34) dX10_isFactor_27 (by decide) (fun c => ?_) (fun c => ?_)
      · rw [if_pos c] at hq
        refine e_iconst dX10_isFactor_34 (by unfold InR; decide) ?_
        exact e_zreturn dX10_isFactor_35 rfl (by decide) ⟨_, rfl, hq⟩
      · rw [if_neg c] at hq
        refine e_iconst dX10_isFactor_30 (by unfold InR; decide) ?_
        refine e_goto (tgt := 35) dX10_isFactor_31 (by decide) ?_
        exact e_zreturn dX10_isFactor_35 rfl (by decide) ⟨_, rfl, hq⟩

def LX10_reads_7 (G : Gl) (x0 : Nat) (x1 : Int) (x2 : Int) (x3 : Int) (S : Sh) (I : MI) (R : MR) (Q : Sh → MI → MR → Int → Prop) : Prop := E G MX10_reads 7 [(0, vR x0), (1, vI x1), (2, vI x2), (3, vI x3)] [] S I R (qI Q)
set_option maxRecDepth 100000 in
set_option maxHeartbeats 4000000 in
theorem bX10_reads {G : Gl} {S : Sh} {I : MI} {R : MR} {Q : Sh → MI → MR → Int → Prop} {x0 : Nat} {x1 : Int} (h : (sT S x0 = 10 ∧ LX10_reads_7 G x0 x1 (I x0 12) 0 S I R Q)) : CI G MX10_reads [vR x0, vI x1] S I R Q := by
  show E G MX10_reads 0 [(0, vR x0), (1, vI x1)] [] S I R (qI Q)
  refine e_aload_n 0 dX10_reads_0 rfl ?_
  have o1 := h.1
  replace h := h.2
  refine e_getI dX10_reads_1 flX10_144 rfl o1 ?_
  refine e_istore_n (ls2 := [(2, vI (I x0 12)), (0, vR x0), (1, vI x1)]) dX10_reads_4 (by decide) rfl ?_
  refine e_iconst dX10_reads_5 (by unfold InR; decide) ?_
  refine e_istore_n (ls2 := [(3, vI 0), (2, vI (I x0 12)), (0, vR x0), (1, vI x1)]) dX10_reads_6 (by decide) rfl ?_
  exact e_sub (ls2 := [(0, vR x0), (1, vI x1), (2, vI (I x0 12)), (3, vI 0)]) [2, 3, 1, 0] rfl h
set_option maxRecDepth 100000 in
set_option maxHeartbeats 4000000 in
theorem bX10_reads_7 {G : Gl} {S : Sh} {I : MI} {R : MR} {Q : Sh → MI → MR → Int → Prop} {x0 : Nat} {x1 : Int} {x2 : Int} {x3 : Int} (h : (sT S x0 = 10 ∧ ((pX10_see S I R x0 (I x0 12)) ∧ ((pX10_isDigit S x0 (vX10_see I R x0 (I x0 12))) ∧ (((vX10_isDigit x0 (vX10_see I R x0 (I x0 12))) = 0 → (((I x0 12) = x2 → (CV G MX10_faultyAt [vR x0, vI 1, vI x2] S I R (fun S83 I83 R83 => (sT S83 x0 = 10 ∧ (CV G MX10_skips [vR x0] S83 I83 R83 (fun S87 I87 R87 => Q S87 I87 R87 x3)))))) ∧ (¬ ((I x0 12) = x2) → (((w32 ((I x0 12) - x2)) ≤ x1 → (CV G MX10_skips [vR x0] S I R (fun S87 I87 R87 => Q S87 I87 R87 x3))) ∧ (¬ ((w32 ((I x0 12) - x2)) ≤ x1) → (CV G MX10_faultyAt [vR x0, vI 1, vI x2] S I R (fun S83 I83 R83 => (sT S83 x0 = 10 ∧ (CV G MX10_skips [vR x0] S83 I83 R83 (fun S87 I87 R87 => Q S87 I87 R87 x3)))))))))) ∧ (¬ ((vX10_isDigit x0 (vX10_see I R x0 (I x0 12))) = 0) → ((x1 ≤ (w32 ((I x0 12) - x2)) → (∀ I56, I56 = up2 I x0 12 (w32 ((I x0 12) + 1)) → LX10_reads_7 G x0 x1 x2 x3 S I56 R Q)) ∧ (¬ (x1 ≤ (w32 ((I x0 12) - x2))) → (∀ I56, I56 = up2 I x0 12 (w32 ((I x0 12) + 1)) → LX10_reads_7 G x0 x1 x2 (w32 ((w32 ((w32 (10 * x3)) + (vX10_see I R x0 (I x0 12)))) - 48)) S I56 R Q))))))))) : LX10_reads_7 G x0 x1 x2 x3 S I R Q := by
  show E G MX10_reads 7 [(0, vR x0), (1, vI x1), (2, vI x2), (3, vI x3)] [] S I R (qI Q)
  refine e_aload_n 0 dX10_reads_7 rfl ?_
  refine e_aload_n 0 dX10_reads_8 rfl ?_
  refine e_aload_n 0 dX10_reads_9 rfl ?_
  have o2 := h.1
  replace h := h.2
  refine e_getI dX10_reads_10 flX10_144 rfl o2 ?_
  have o3 := h.1
  replace h := h.2
  refine i_VI (μ' := MX10_see) (ci := 9) (r := x0) (as := [vI (I x0 12)]) (st := [vR x0]) rfl dX10_reads_13 mOKX10_see ⟨mlX10_147, imX10_see, seX10_see⟩ (by decide) (Nat.le_of_ble_eq_true rfl) rfl (Nat.le_of_ble_eq_true rfl) ⟨by decide, rfl⟩ o2 (sX10_see o3 ?_)
  have o4 := h.1
  replace h := h.2
  refine i_VI (μ' := MX10_isDigit) (ci := 9) (r := x0) (as := [vI (vX10_see I R x0 (I x0 12))]) (st := []) rfl dX10_reads_16 mOKX10_isDigit ⟨mlX10_156, imX10_isDigit, seX10_isDigit⟩ (by decide) (Nat.le_of_ble_eq_true rfl) rfl (Nat.le_of_ble_eq_true rfl) ⟨by decide, rfl⟩ o2 (sX10_isDigit o4 ?_)
  refine e_if_eq (tgt := 62) dX10_reads_19 (by decide) (fun c => ?_) (fun c => ?_)
  · replace h := h.1 c
    refine e_aload_n 0 dX10_reads_62 rfl ?_
    refine e_getI dX10_reads_63 flX10_144 rfl o2 ?_
    refine e_iload_n 2 dX10_reads_66 rfl ?_
    refine e_icmp_eq (tgt := 80) dX10_reads_67 (by decide) (fun c => ?_) (fun c => ?_)
    · replace h := h.1 c
      refine e_aload_n 0 dX10_reads_80 rfl ?_
      refine e_iconst dX10_reads_81 (by unfold InR; decide) ?_
      refine e_iload_n 2 dX10_reads_82 rfl ?_
      refine i_VV (μ' := MX10_faultyAt) (ci := 9) (r := x0) (as := [vI 1, vI x2]) (st := []) rfl dX10_reads_83 mOKX10_faultyAt ⟨mlX10_163, imX10_faultyAt, seX10_faultyAt⟩ (by decide) (Nat.le_of_ble_eq_true rfl) rfl (Nat.le_of_ble_eq_true rfl) ⟨by decide, rfl⟩ o2 (CV.mono h ?_)
      clear h
      intro S83 I83 R83 h
      refine e_aload_n 0 dX10_reads_86 rfl ?_
      have o5 := h.1
      replace h := h.2
      refine i_VV (μ' := MX10_skips) (ci := 9) (r := x0) (as := []) (st := []) rfl dX10_reads_87 mOKX10_skips ⟨mlX10_167, imX10_skips, seX10_skips⟩ (by decide) (Nat.le_of_ble_eq_true rfl) rfl (Nat.le_of_ble_eq_true rfl) ⟨by decide, rfl⟩ o5 (CV.mono h ?_)
      clear h
      intro S87 I87 R87 h
      refine e_iload_n 3 dX10_reads_90 rfl ?_
      exact e_ireturn dX10_reads_91 rfl ⟨_, rfl, h⟩
    · replace h := h.2 c
      refine e_aload_n 0 dX10_reads_70 rfl ?_
      refine e_getI dX10_reads_71 flX10_144 rfl o2 ?_
      refine e_iload_n 2 dX10_reads_74 rfl ?_
      refine e_isub dX10_reads_75 ?_
      refine e_iload_n 1 dX10_reads_76 rfl ?_
      refine e_icmp_le (tgt := 86) dX10_reads_77 (by decide) (fun c => ?_) (fun c => ?_)
      · replace h := h.1 c
        refine e_aload_n 0 dX10_reads_86 rfl ?_
        refine i_VV (μ' := MX10_skips) (ci := 9) (r := x0) (as := []) (st := []) rfl dX10_reads_87 mOKX10_skips ⟨mlX10_167, imX10_skips, seX10_skips⟩ (by decide) (Nat.le_of_ble_eq_true rfl) rfl (Nat.le_of_ble_eq_true rfl) ⟨by decide, rfl⟩ o2 (CV.mono h ?_)
        clear h
        intro S87 I87 R87 h
        refine e_iload_n 3 dX10_reads_90 rfl ?_
        exact e_ireturn dX10_reads_91 rfl ⟨_, rfl, h⟩
      · replace h := h.2 c
        refine e_aload_n 0 dX10_reads_80 rfl ?_
        refine e_iconst dX10_reads_81 (by unfold InR; decide) ?_
        refine e_iload_n 2 dX10_reads_82 rfl ?_
        refine i_VV (μ' := MX10_faultyAt) (ci := 9) (r := x0) (as := [vI 1, vI x2]) (st := []) rfl dX10_reads_83 mOKX10_faultyAt ⟨mlX10_163, imX10_faultyAt, seX10_faultyAt⟩ (by decide) (Nat.le_of_ble_eq_true rfl) rfl (Nat.le_of_ble_eq_true rfl) ⟨by decide, rfl⟩ o2 (CV.mono h ?_)
        clear h
        intro S83 I83 R83 h
        refine e_aload_n 0 dX10_reads_86 rfl ?_
        have o6 := h.1
        replace h := h.2
        refine i_VV (μ' := MX10_skips) (ci := 9) (r := x0) (as := []) (st := []) rfl dX10_reads_87 mOKX10_skips ⟨mlX10_167, imX10_skips, seX10_skips⟩ (by decide) (Nat.le_of_ble_eq_true rfl) rfl (Nat.le_of_ble_eq_true rfl) ⟨by decide, rfl⟩ o6 (CV.mono h ?_)
        clear h
        intro S87 I87 R87 h
        refine e_iload_n 3 dX10_reads_90 rfl ?_
        exact e_ireturn dX10_reads_91 rfl ⟨_, rfl, h⟩
  · replace h := h.2 c
    refine e_aload_n 0 dX10_reads_22 rfl ?_
    refine e_getI dX10_reads_23 flX10_144 rfl o2 ?_
    refine e_iload_n 2 dX10_reads_26 rfl ?_
    refine e_isub dX10_reads_27 ?_
    refine e_iload_n 1 dX10_reads_28 rfl ?_
    refine e_icmp_ge (tgt := 49) dX10_reads_29 (by decide) (fun c => ?_) (fun c => ?_)
    · replace h := h.1 c
      refine e_aload_n 0 dX10_reads_49 rfl ?_
      refine e_aload_n 0 dX10_reads_50 rfl ?_
      refine e_getI dX10_reads_51 flX10_144 rfl o2 ?_
      refine e_iconst dX10_reads_54 (by unfold InR; decide) ?_
      refine e_iadd dX10_reads_55 ?_
      obtain ⟨I56, eI56⟩ : ∃ z : MI, z = up2 I x0 12 (w32 ((I x0 12) + 1)) := ⟨_, rfl⟩
      replace h := h I56 eI56
      refine e_putI dX10_reads_56 flX10_144 rfl (Or.inl rfl) o2 (eqI eI56 ?_)
      refine e_goto (tgt := 7) dX10_reads_59 (by decide) ?_
      exact e_sub (ls2 := [(0, vR x0), (1, vI x1), (2, vI x2), (3, vI x3)]) [0, 1, 2, 3] rfl h
    · replace h := h.2 c
      refine e_bipush (x := 10) dX10_reads_32 ⟨by decide +kernel, by unfold InR; decide⟩ ?_
      refine e_iload_n 3 dX10_reads_34 rfl ?_
      refine e_imul dX10_reads_35 ?_
      refine e_aload_n 0 dX10_reads_36 rfl ?_
      refine e_aload_n 0 dX10_reads_37 rfl ?_
      refine e_getI dX10_reads_38 flX10_144 rfl o2 ?_
      refine i_VI (μ' := MX10_see) (ci := 9) (r := x0) (as := [vI (I x0 12)]) (st := [vI (w32 (10 * x3))]) rfl dX10_reads_41 mOKX10_see ⟨mlX10_147, imX10_see, seX10_see⟩ (by decide) (Nat.le_of_ble_eq_true rfl) rfl (Nat.le_of_ble_eq_true rfl) ⟨by decide, rfl⟩ o2 (sX10_see o3 ?_)
      refine e_iadd dX10_reads_44 ?_
      refine e_bipush (x := 48) dX10_reads_45 ⟨by decide +kernel, by unfold InR; decide⟩ ?_
      refine e_isub dX10_reads_47 ?_
      refine e_istore_n (ls2 := [(3, vI (w32 ((w32 ((w32 (10 * x3)) + (vX10_see I R x0 (I x0 12)))) - 48))), (0, vR x0), (1, vI x1), (2, vI x2)]) dX10_reads_48 (by decide) rfl ?_
      refine e_aload_n 1 dX10_reads_49 rfl ?_
      refine e_aload_n 1 dX10_reads_50 rfl ?_
      refine e_getI dX10_reads_51 flX10_144 rfl o2 ?_
      refine e_iconst dX10_reads_54 (by unfold InR; decide) ?_
      refine e_iadd dX10_reads_55 ?_
      obtain ⟨I56, eI56⟩ : ∃ z : MI, z = up2 I x0 12 (w32 ((I x0 12) + 1)) := ⟨_, rfl⟩
      replace h := h I56 eI56
      refine e_putI dX10_reads_56 flX10_144 rfl (Or.inl rfl) o2 (eqI eI56 ?_)
      refine e_goto (tgt := 7) dX10_reads_59 (by decide) ?_
      exact e_sub (ls2 := [(0, vR x0), (1, vI x1), (2, vI x2), (3, vI (w32 ((w32 ((w32 (10 * x3)) + (vX10_see I R x0 (I x0 12)))) - 48)))]) [1, 2, 3, 0] rfl h

def LX10_readsFactor_101 (G : Gl) (x0 : Nat) (x1 : Int) (x2 : Int) (x3 : Int) (S : Sh) (I : MI) (R : MR) (Q : Sh → MI → MR → Prop) : Prop := E G MX10_readsFactor 101 [(0, vR x0), (1, vI x1), (2, vI x2), (3, vI x3)] [] S I R (qV Q)
set_option maxRecDepth 100000 in
set_option maxHeartbeats 4000000 in
theorem bX10_readsFactor {G : Gl} {S : Sh} {I : MI} {R : MR} {Q : Sh → MI → MR → Prop} {x0 : Nat} (h : (sT S x0 = 10 ∧ ((pX10_see S I R x0 (I x0 12)) ∧ ((pX10_isDigit S x0 (vX10_see I R x0 (I x0 12))) ∧ (((vX10_isDigit x0 (vX10_see I R x0 (I x0 12))) = 0 → ((pX10_variableHere S I R x0) ∧ (∀ I59, I59 = up2 I x0 12 (w32 ((I x0 12) + 1)) → (CV G MX10_skips [vR x0] S I59 R (fun S63 I63 R63 => (sT S63 x0 = 10 ∧ ((pX10_see S63 I63 R63 x0 (I63 x0 12)) ∧ (((vX10_see I63 R63 x0 (I63 x0 12)) ≠ 94 → LX10_readsFactor_101 G x0 (I x0 12) (vX10_variableHere I R x0) 1 S63 I63 R63 Q) ∧ (¬ ((vX10_see I63 R63 x0 (I63 x0 12)) ≠ 94) → (∀ I88, I88 = up2 I63 x0 12 (w32 ((I63 x0 12) + 1)) → (CV G MX10_skips [vR x0] S63 I88 R63 (fun S92 I92 R92 => (sT S92 x0 = 10 ∧ (CI G MX10_reads [vR x0, vI 2] S92 I92 R92 (fun S97 I97 R97 x97_ => LX10_readsFactor_101 G x0 (I x0 12) (vX10_variableHere I R x0) x97_ S97 I97 R97 Q))))))))))))))) ∧ (¬ ((vX10_isDigit x0 (vX10_see I R x0 (I x0 12))) = 0) → (CI G MX10_reads [vR x0, vI 5] S I R (fun S22 I22 R22 x22_ => (sT S22 x0 = 10 ∧ ((I22 x0 2) ≠ 0 ∧ (∀ I38, I38 = up2 I22 x0 16 (lrem (w64 ((I x0 16) * (irem x22_ (I22 x0 2)))) (I22 x0 2)) → Q S22 I38 R22))))))))))) : CV G MX10_readsFactor [vR x0] S I R Q := by
  show E G MX10_readsFactor 0 [(0, vR x0)] [] S I R (qV Q)
  refine e_aload_n 0 dX10_readsFactor_0 rfl ?_
  refine e_aload_n 0 dX10_readsFactor_1 rfl ?_
  refine e_aload_n 0 dX10_readsFactor_2 rfl ?_
  have o1 := h.1
  replace h := h.2
  refine e_getI dX10_readsFactor_3 flX10_144 rfl o1 ?_
  have o2 := h.1
  replace h := h.2
  refine i_VI (μ' := MX10_see) (ci := 9) (r := x0) (as := [vI (I x0 12)]) (st := [vR x0]) rfl dX10_readsFactor_6 mOKX10_see ⟨mlX10_147, imX10_see, seX10_see⟩ (by decide) (Nat.le_of_ble_eq_true rfl) rfl (Nat.le_of_ble_eq_true rfl) ⟨by decide, rfl⟩ o1 (sX10_see o2 ?_)
  have o3 := h.1
  replace h := h.2
  refine i_VI (μ' := MX10_isDigit) (ci := 9) (r := x0) (as := [vI (vX10_see I R x0 (I x0 12))]) (st := []) rfl dX10_readsFactor_9 mOKX10_isDigit ⟨mlX10_156, imX10_isDigit, seX10_isDigit⟩ (by decide) (Nat.le_of_ble_eq_true rfl) rfl (Nat.le_of_ble_eq_true rfl) ⟨by decide, rfl⟩ o1 (sX10_isDigit o3 ?_)
  refine e_if_eq (tgt := 42) dX10_readsFactor_12 (by decide) (fun c => ?_) (fun c => ?_)
  · replace h := h.1 c
    refine e_aload_n 0 dX10_readsFactor_42 rfl ?_
    refine e_getI dX10_readsFactor_43 flX10_144 rfl o1 ?_
    refine e_istore_n (ls2 := [(1, vI (I x0 12)), (0, vR x0)]) dX10_readsFactor_46 (by decide) rfl ?_
    refine e_aload_n 1 dX10_readsFactor_47 rfl ?_
    have o4 := h.1
    replace h := h.2
    refine i_VI (μ' := MX10_variableHere) (ci := 9) (r := x0) (as := []) (st := []) rfl dX10_readsFactor_48 mOKX10_variableHere ⟨mlX10_159, imX10_variableHere, seX10_variableHere⟩ (by decide) (Nat.le_of_ble_eq_true rfl) rfl (Nat.le_of_ble_eq_true rfl) ⟨by decide, rfl⟩ o1 (sX10_variableHere o4 ?_)
    refine e_istore_n (ls2 := [(2, vI (vX10_variableHere I R x0)), (1, vI (I x0 12)), (0, vR x0)]) dX10_readsFactor_51 (by decide) rfl ?_
    refine e_aload_n 2 dX10_readsFactor_52 rfl ?_
    refine e_aload_n 2 dX10_readsFactor_53 rfl ?_
    refine e_getI dX10_readsFactor_54 flX10_144 rfl o1 ?_
    refine e_iconst dX10_readsFactor_57 (by unfold InR; decide) ?_
    refine e_iadd dX10_readsFactor_58 ?_
    obtain ⟨I59, eI59⟩ : ∃ z : MI, z = up2 I x0 12 (w32 ((I x0 12) + 1)) := ⟨_, rfl⟩
    replace h := h I59 eI59
    refine e_putI dX10_readsFactor_59 flX10_144 rfl (Or.inl rfl) o1 (eqI eI59 ?_)
    refine e_aload_n 2 dX10_readsFactor_62 rfl ?_
    refine i_VV (μ' := MX10_skips) (ci := 9) (r := x0) (as := []) (st := []) rfl dX10_readsFactor_63 mOKX10_skips ⟨mlX10_167, imX10_skips, seX10_skips⟩ (by decide) (Nat.le_of_ble_eq_true rfl) rfl (Nat.le_of_ble_eq_true rfl) ⟨by decide, rfl⟩ o1 (CV.mono h ?_)
    clear h
    intro S63 I63 R63 h
    refine e_iconst dX10_readsFactor_66 (by unfold InR; decide) ?_
    refine e_istore_n (ls2 := [(3, vI 1), (2, vI (vX10_variableHere I R x0)), (1, vI (I x0 12)), (0, vR x0)]) dX10_readsFactor_67 (by decide) rfl ?_
    refine e_aload_n 3 dX10_readsFactor_68 rfl ?_
    refine e_aload_n 3 dX10_readsFactor_69 rfl ?_
    have o5 := h.1
    replace h := h.2
    refine e_getI dX10_readsFactor_70 flX10_144 rfl o5 ?_
    have o6 := h.1
    replace h := h.2
    refine i_VI (μ' := MX10_see) (ci := 9) (r := x0) (as := [vI (I63 x0 12)]) (st := []) rfl dX10_readsFactor_73 mOKX10_see ⟨mlX10_147, imX10_see, seX10_see⟩ (by decide) (Nat.le_of_ble_eq_true rfl) rfl (Nat.le_of_ble_eq_true rfl) ⟨by decide, rfl⟩ o5 (sX10_see o6 ?_)
    refine e_bipush (x := 94) dX10_readsFactor_76 ⟨by decide +kernel, by unfold InR; decide⟩ ?_
    refine e_icmp_ne (tgt := 101) dX10_readsFactor_78 (by decide) (fun c => ?_) (fun c => ?_)
    · replace h := h.1 c
      exact e_sub (ls2 := [(0, vR x0), (1, vI (I x0 12)), (2, vI (vX10_variableHere I R x0)), (3, vI 1)]) [3, 2, 1, 0] rfl h
    · replace h := h.2 c
      refine e_aload_n 3 dX10_readsFactor_81 rfl ?_
      refine e_aload_n 3 dX10_readsFactor_82 rfl ?_
      refine e_getI dX10_readsFactor_83 flX10_144 rfl o5 ?_
      refine e_iconst dX10_readsFactor_86 (by unfold InR; decide) ?_
      refine e_iadd dX10_readsFactor_87 ?_
      obtain ⟨I88, eI88⟩ : ∃ z : MI, z = up2 I63 x0 12 (w32 ((I63 x0 12) + 1)) := ⟨_, rfl⟩
      replace h := h I88 eI88
      refine e_putI dX10_readsFactor_88 flX10_144 rfl (Or.inl rfl) o5 (eqI eI88 ?_)
      refine e_aload_n 3 dX10_readsFactor_91 rfl ?_
      refine i_VV (μ' := MX10_skips) (ci := 9) (r := x0) (as := []) (st := []) rfl dX10_readsFactor_92 mOKX10_skips ⟨mlX10_167, imX10_skips, seX10_skips⟩ (by decide) (Nat.le_of_ble_eq_true rfl) rfl (Nat.le_of_ble_eq_true rfl) ⟨by decide, rfl⟩ o5 (CV.mono h ?_)
      clear h
      intro S92 I92 R92 h
      refine e_aload_n 3 dX10_readsFactor_95 rfl ?_
      refine e_iconst dX10_readsFactor_96 (by unfold InR; decide) ?_
      have o7 := h.1
      replace h := h.2
      refine i_VI (μ' := MX10_reads) (ci := 9) (r := x0) (as := [vI 2]) (st := []) rfl dX10_readsFactor_97 mOKX10_reads ⟨mlX10_174, imX10_reads, seX10_reads⟩ (by decide) (Nat.le_of_ble_eq_true rfl) rfl (Nat.le_of_ble_eq_true rfl) ⟨by decide, rfl⟩ o7 (CI.mono h ?_)
      clear h
      intro S97 I97 R97 x97_ h
      refine e_istore_n (ls2 := [(3, vI x97_), (2, vI (vX10_variableHere I R x0)), (1, vI (I x0 12)), (0, vR x0)]) dX10_readsFactor_100 (by decide) rfl ?_
      exact e_sub (ls2 := [(0, vR x0), (1, vI (I x0 12)), (2, vI (vX10_variableHere I R x0)), (3, vI x97_)]) [3, 2, 1, 0] rfl h
  · replace h := h.2 c
    refine e_aload_n 0 dX10_readsFactor_15 rfl ?_
    refine e_aload_n 0 dX10_readsFactor_16 rfl ?_
    refine e_getL dX10_readsFactor_17 flX10_170 rfl o1 ?_
    refine e_aload_n 0 dX10_readsFactor_20 rfl ?_
    refine e_iconst dX10_readsFactor_21 (by unfold InR; decide) ?_
    refine i_VI (μ' := MX10_reads) (ci := 9) (r := x0) (as := [vI 5]) (st := [vL (I x0 16), vR x0]) rfl dX10_readsFactor_22 mOKX10_reads ⟨mlX10_174, imX10_reads, seX10_reads⟩ (by decide) (Nat.le_of_ble_eq_true rfl) rfl (Nat.le_of_ble_eq_true rfl) ⟨by decide, rfl⟩ o1 (CI.mono h ?_)
    clear h
    intro S22 I22 R22 x22_ h
    refine e_aload_n 0 dX10_readsFactor_25 rfl ?_
    have o8 := h.1
    replace h := h.2
    refine e_getI dX10_readsFactor_26 flX10_13 rfl o8 ?_
    have o9 := h.1
    replace h := h.2
    refine e_irem dX10_readsFactor_29 o9 ?_
    refine e_i2l dX10_readsFactor_30 ?_
    refine e_lmul dX10_readsFactor_31 ?_
    refine e_aload_n 0 dX10_readsFactor_32 rfl ?_
    refine e_getI dX10_readsFactor_33 flX10_13 rfl o8 ?_
    refine e_i2l dX10_readsFactor_36 ?_
    refine e_lrem dX10_readsFactor_37 o9 ?_
    obtain ⟨I38, eI38⟩ : ∃ z : MI, z = up2 I22 x0 16 (lrem (w64 ((I x0 16) * (irem x22_ (I22 x0 2)))) (I22 x0 2)) := ⟨_, rfl⟩
    replace h := h I38 eI38
    refine e_putL dX10_readsFactor_38 flX10_170 rfl (Or.inl rfl) o8 (eqI eI38 ?_)
    exact e_return dX10_readsFactor_41 rfl ⟨rfl, h⟩
set_option maxRecDepth 100000 in
set_option maxHeartbeats 4000000 in
theorem bX10_readsFactor_101 {G : Gl} {S : Sh} {I : MI} {R : MR} {Q : Sh → MI → MR → Prop} {x0 : Nat} {x1 : Int} {x2 : Int} {x3 : Int} (h : (sT S x0 = 10 ∧ (sT S (R x0 17) = 21 ∧ (((0 : Int) ≤ x2 ∧ x2 < (sL S (R x0 17) : Int)) ∧ (∀ I114, I114 = up2 I (R x0 17) (Int.toNat x2) (w32 ((I (R x0 17) (Int.toNat x2)) + x3)) → (((I114 (R x0 17) (Int.toNat x2)) ≤ 30 → Q S I114 R) ∧ (¬ ((I114 (R x0 17) (Int.toNat x2)) ≤ 30) → (CV G MX10_faultyAt [vR x0, vI 2, vI x1] S I114 R (fun S129 I129 R129 => Q S129 I129 R129))))))))) : LX10_readsFactor_101 G x0 x1 x2 x3 S I R Q := by
  show E G MX10_readsFactor 101 [(0, vR x0), (1, vI x1), (2, vI x2), (3, vI x3)] [] S I R (qV Q)
  refine e_aload_n 0 dX10_readsFactor_101 rfl ?_
  have o10 := h.1
  replace h := h.2
  refine e_getR dX10_readsFactor_102 flX10_43 rfl o10 ?_
  refine e_iload_n 2 dX10_readsFactor_105 rfl ?_
  refine e_aload_n 0 dX10_readsFactor_106 rfl ?_
  refine e_getR dX10_readsFactor_107 flX10_43 rfl o10 ?_
  refine e_iload_n 2 dX10_readsFactor_110 rfl ?_
  have o11 := h.1
  replace h := h.2
  have o12 := h.1
  replace h := h.2
  refine e_iald dX10_readsFactor_111 o11 o12 ?_
  refine e_iload_n 3 dX10_readsFactor_112 rfl ?_
  refine e_iadd dX10_readsFactor_113 ?_
  obtain ⟨I114, eI114⟩ : ∃ z : MI, z = up2 I (R x0 17) (Int.toNat x2) (w32 ((I (R x0 17) (Int.toNat x2)) + x3)) := ⟨_, rfl⟩
  replace h := h I114 eI114
  refine e_iast dX10_readsFactor_114 o11 o12 (eqI eI114 ?_)
  refine e_aload_n 0 dX10_readsFactor_115 rfl ?_
  refine e_getR dX10_readsFactor_116 flX10_43 rfl o10 ?_
  refine e_iload_n 2 dX10_readsFactor_119 rfl ?_
  refine e_iald dX10_readsFactor_120 o11 o12 ?_
  refine e_bipush (x := 30) dX10_readsFactor_121 ⟨by decide +kernel, by unfold InR; decide⟩ ?_
  refine e_icmp_le (tgt := 132) dX10_readsFactor_123 (by decide) (fun c => ?_) (fun c => ?_)
  · replace h := h.1 c
    exact e_return dX10_readsFactor_132 rfl ⟨rfl, h⟩
  · replace h := h.2 c
    refine e_aload_n 0 dX10_readsFactor_126 rfl ?_
    refine e_iconst dX10_readsFactor_127 (by unfold InR; decide) ?_
    refine e_iload_n 1 dX10_readsFactor_128 rfl ?_
    refine i_VV (μ' := MX10_faultyAt) (ci := 9) (r := x0) (as := [vI 2, vI x1]) (st := []) rfl dX10_readsFactor_129 mOKX10_faultyAt ⟨mlX10_163, imX10_faultyAt, seX10_faultyAt⟩ (by decide) (Nat.le_of_ble_eq_true rfl) rfl (Nat.le_of_ble_eq_true rfl) ⟨by decide, rfl⟩ o10 (CV.mono h ?_)
    clear h
    intro S129 I129 R129 h
    exact e_return dX10_readsFactor_132 rfl ⟨rfl, h⟩

def LX10_readsTerm_29 (G : Gl) (x0 : Nat) (x1 : Int) (x2 : Int) (S : Sh) (I : MI) (R : MR) (Q : Sh → MI → MR → Prop) : Prop := E G MX10_readsTerm 29 [(0, vR x0), (1, vI x1), (2, vI x2)] [] S I R (qV Q)
def LX10_readsTerm_47 (G : Gl) (x0 : Nat) (x1 : Int) (S : Sh) (I : MI) (R : MR) (Q : Sh → MI → MR → Prop) : Prop := E G MX10_readsTerm 47 [(0, vR x0), (1, vI x1)] [] S I R (qV Q)
def LX10_readsTerm_86 (G : Gl) (x0 : Nat) (y0 : Int) (y1 : Nat) (y2 : Nat) (S : Sh) (I : MI) (R : MR) (Q : Sh → MI → MR → Prop) : Prop := E G MX10_readsTerm 86 [(0, vR x0)] [vL y0, vR y1, vR y2] S I R (qV Q)
set_option maxRecDepth 100000 in
set_option maxHeartbeats 4000000 in
theorem bX10_readsTerm {G : Gl} {S : Sh} {I : MI} {R : MR} {Q : Sh → MI → MR → Prop} {x0 : Nat} {x1 : Int} (h : (sT S x0 = 10 ∧ ((pX10_isFactor S I R x0) ∧ (((vX10_isFactor I R x0) ≠ 0 → ((I x0 2) ≠ 0 ∧ (∀ I24, I24 = up2 I x0 16 (lrem 1 (I x0 2)) → LX10_readsTerm_29 G x0 x1 0 S I24 R Q))) ∧ (¬ ((vX10_isFactor I R x0) ≠ 0) → (CV G MX10_faultyAt [vR x0, vI 1, vI (I x0 12)] S I R (fun S13 I13 R13 => (sT S13 x0 = 10 ∧ ((I13 x0 2) ≠ 0 ∧ (∀ I24, I24 = up2 I13 x0 16 (lrem 1 (I13 x0 2)) → LX10_readsTerm_29 G x0 x1 0 S13 I24 R13 Q)))))))))) : CV G MX10_readsTerm [vR x0, vI x1] S I R Q := by
  show E G MX10_readsTerm 0 [(0, vR x0), (1, vI x1)] [] S I R (qV Q)
  refine e_aload_n 0 dX10_readsTerm_0 rfl ?_
  have o1 := h.1
  replace h := h.2
  have o2 := h.1
  replace h := h.2
  refine i_VI (μ' := MX10_isFactor) (ci := 9) (r := x0) (as := []) (st := []) rfl dX10_readsTerm_1 mOKX10_isFactor ⟨mlX10_177, imX10_isFactor, seX10_isFactor⟩ (by decide) (Nat.le_of_ble_eq_true rfl) rfl (Nat.le_of_ble_eq_true rfl) ⟨by decide, rfl⟩ o1 (sX10_isFactor o2 ?_)
  refine e_if_ne (tgt := 16) dX10_readsTerm_4 (by decide) (fun c => ?_) (fun c => ?_)
  · replace h := h.1 c
    refine e_aload_n 0 dX10_readsTerm_16 rfl ?_
    refine e_lconst (x := 1) dX10_readsTerm_17 ⟨by decide +kernel, by unfold InL; decide⟩ ?_
    refine e_aload_n 0 dX10_readsTerm_18 rfl ?_
    refine e_getI dX10_readsTerm_19 flX10_13 rfl o1 ?_
    refine e_i2l dX10_readsTerm_22 ?_
    have o3 := h.1
    replace h := h.2
    refine e_lrem dX10_readsTerm_23 o3 ?_
    obtain ⟨I24, eI24⟩ : ∃ z : MI, z = up2 I x0 16 (lrem 1 (I x0 2)) := ⟨_, rfl⟩
    replace h := h I24 eI24
    refine e_putL dX10_readsTerm_24 flX10_170 rfl (Or.inl rfl) o1 (eqI eI24 ?_)
    refine e_iconst dX10_readsTerm_27 (by unfold InR; decide) ?_
    refine e_istore_n (ls2 := [(2, vI 0), (0, vR x0), (1, vI x1)]) dX10_readsTerm_28 (by decide) rfl ?_
    exact e_sub (ls2 := [(0, vR x0), (1, vI x1), (2, vI 0)]) [1, 2, 0] rfl h
  · replace h := h.2 c
    refine e_aload_n 0 dX10_readsTerm_7 rfl ?_
    refine e_iconst dX10_readsTerm_8 (by unfold InR; decide) ?_
    refine e_aload_n 0 dX10_readsTerm_9 rfl ?_
    refine e_getI dX10_readsTerm_10 flX10_144 rfl o1 ?_
    refine i_VV (μ' := MX10_faultyAt) (ci := 9) (r := x0) (as := [vI 1, vI (I x0 12)]) (st := []) rfl dX10_readsTerm_13 mOKX10_faultyAt ⟨mlX10_163, imX10_faultyAt, seX10_faultyAt⟩ (by decide) (Nat.le_of_ble_eq_true rfl) rfl (Nat.le_of_ble_eq_true rfl) ⟨by decide, rfl⟩ o1 (CV.mono h ?_)
    clear h
    intro S13 I13 R13 h
    refine e_aload_n 0 dX10_readsTerm_16 rfl ?_
    refine e_lconst (x := 1) dX10_readsTerm_17 ⟨by decide +kernel, by unfold InL; decide⟩ ?_
    refine e_aload_n 0 dX10_readsTerm_18 rfl ?_
    have o4 := h.1
    replace h := h.2
    refine e_getI dX10_readsTerm_19 flX10_13 rfl o4 ?_
    refine e_i2l dX10_readsTerm_22 ?_
    have o5 := h.1
    replace h := h.2
    refine e_lrem dX10_readsTerm_23 o5 ?_
    obtain ⟨I24, eI24⟩ : ∃ z : MI, z = up2 I13 x0 16 (lrem 1 (I13 x0 2)) := ⟨_, rfl⟩
    replace h := h I24 eI24
    refine e_putL dX10_readsTerm_24 flX10_170 rfl (Or.inl rfl) o4 (eqI eI24 ?_)
    refine e_iconst dX10_readsTerm_27 (by unfold InR; decide) ?_
    refine e_istore_n (ls2 := [(2, vI 0), (0, vR x0), (1, vI x1)]) dX10_readsTerm_28 (by decide) rfl ?_
    exact e_sub (ls2 := [(0, vR x0), (1, vI x1), (2, vI 0)]) [1, 2, 0] rfl h
set_option maxRecDepth 100000 in
set_option maxHeartbeats 4000000 in
theorem bX10_readsTerm_29 {G : Gl} {S : Sh} {I : MI} {R : MR} {Q : Sh → MI → MR → Prop} {x0 : Nat} {x1 : Int} {x2 : Int} (h : ((3 ≤ x2 → LX10_readsTerm_47 G x0 x1 S I R Q) ∧ (¬ (3 ≤ x2) → (sT S x0 = 10 ∧ (sT S (R x0 17) = 21 ∧ (((0 : Int) ≤ x2 ∧ x2 < (sL S (R x0 17) : Int)) ∧ (∀ I40, I40 = up2 I (R x0 17) (Int.toNat x2) 0 → LX10_readsTerm_29 G x0 x1 (w32 (x2 + 1)) S I40 R Q))))))) : LX10_readsTerm_29 G x0 x1 x2 S I R Q := by
  show E G MX10_readsTerm 29 [(0, vR x0), (1, vI x1), (2, vI x2)] [] S I R (qV Q)
  refine e_iload_n 2 dX10_readsTerm_29 rfl ?_
  refine e_iconst dX10_readsTerm_30 (by unfold InR; decide) ?_
  refine e_icmp_ge (tgt := 47) dX10_readsTerm_31 (by decide) (fun c => ?_) (fun c => ?_)
  · replace h := h.1 c
    exact e_sub (ls2 := [(0, vR x0), (1, vI x1)]) [0, 1] rfl h
  · replace h := h.2 c
    refine e_aload_n 0 dX10_readsTerm_34 rfl ?_
    have o6 := h.1
    replace h := h.2
    refine e_getR dX10_readsTerm_35 flX10_43 rfl o6 ?_
    refine e_iload_n 2 dX10_readsTerm_38 rfl ?_
    refine e_iconst dX10_readsTerm_39 (by unfold InR; decide) ?_
    have o7 := h.1
    replace h := h.2
    have o8 := h.1
    replace h := h.2
    obtain ⟨I40, eI40⟩ : ∃ z : MI, z = up2 I (R x0 17) (Int.toNat x2) 0 := ⟨_, rfl⟩
    replace h := h I40 eI40
    refine e_iast dX10_readsTerm_40 o7 o8 (eqI eI40 ?_)
    refine e_iinc (ls2 := [(2, vI (w32 (x2 + 1))), (0, vR x0), (1, vI x1)]) 2 dX10_readsTerm_41 rfl (by decide) rfl ?_
    refine e_goto (tgt := 29) dX10_readsTerm_44 (by decide) ?_
    exact e_sub (ls2 := [(0, vR x0), (1, vI x1), (2, vI (w32 (x2 + 1)))]) [1, 2, 0] rfl h
set_option maxRecDepth 100000 in
set_option maxHeartbeats 4000000 in
theorem bX10_readsTerm_47 {G : Gl} {S : Sh} {I : MI} {R : MR} {Q : Sh → MI → MR → Prop} {x0 : Nat} {x1 : Int} (h : (sT S x0 = 10 ∧ ((pX10_isFactor S I R x0) ∧ (((vX10_isFactor I R x0) = 0 → (((I x0 13) ≠ 0 → Q S I R) ∧ (¬ ((I x0 13) ≠ 0) → ((x1 = 0 → LX10_readsTerm_86 G x0 (I x0 16) x0 x0 S I R Q) ∧ (¬ (x1 = 0) → LX10_readsTerm_86 G x0 (w64 (-(I x0 16))) x0 x0 S I R Q))))) ∧ (¬ ((vX10_isFactor I R x0) = 0) → (CV G MX10_readsFactor [vR x0] S I R (fun S55 I55 R55 => LX10_readsTerm_47 G x0 x1 S55 I55 R55 Q))))))) : LX10_readsTerm_47 G x0 x1 S I R Q := by
  show E G MX10_readsTerm 47 [(0, vR x0), (1, vI x1)] [] S I R (qV Q)
  refine e_aload_n 0 dX10_readsTerm_47 rfl ?_
  have o9 := h.1
  replace h := h.2
  have o10 := h.1
  replace h := h.2
  refine i_VI (μ' := MX10_isFactor) (ci := 9) (r := x0) (as := []) (st := []) rfl dX10_readsTerm_48 mOKX10_isFactor ⟨mlX10_177, imX10_isFactor, seX10_isFactor⟩ (by decide) (Nat.le_of_ble_eq_true rfl) rfl (Nat.le_of_ble_eq_true rfl) ⟨by decide, rfl⟩ o9 (sX10_isFactor o10 ?_)
  refine e_if_eq (tgt := 61) dX10_readsTerm_51 (by decide) (fun c => ?_) (fun c => ?_)
  · replace h := h.1 c
    refine e_aload_n 0 dX10_readsTerm_61 rfl ?_
    refine e_getI dX10_readsTerm_62 flX10_150 rfl o9 ?_
    refine e_if_ne (tgt := 110) dX10_readsTerm_65 (by decide) (fun c => ?_) (fun c => ?_)
    · replace h := h.1 c
      exact e_return dX10_readsTerm_110 rfl ⟨rfl, h⟩
    · replace h := h.2 c
      refine e_aload_n 0 dX10_readsTerm_68 rfl ?_
      refine e_aload_n 0 dX10_readsTerm_69 rfl ?_
      refine e_iload_n 1 dX10_readsTerm_70 rfl ?_
      refine e_if_eq (tgt := 82) dX10_readsTerm_71 (by decide) (fun c => ?_) (fun c => ?_)
      · replace h := h.1 c
        refine e_aload_n 0 dX10_readsTerm_82 rfl ?_
        refine e_getL dX10_readsTerm_83 flX10_170 rfl o9 ?_
        exact e_sub (ls2 := [(0, vR x0)]) [0] rfl h
      · replace h := h.2 c
        refine e_aload_n 0 dX10_readsTerm_74 rfl ?_
        refine e_getL dX10_readsTerm_75 flX10_170 rfl o9 ?_
        refine e_lneg dX10_readsTerm_78 ?_
        refine e_goto (tgt := 86) dX10_readsTerm_79 (by decide) ?_
        exact e_sub (ls2 := [(0, vR x0)]) [0] rfl h
  · replace h := h.2 c
    refine e_aload_n 0 dX10_readsTerm_54 rfl ?_
    refine i_VV (μ' := MX10_readsFactor) (ci := 9) (r := x0) (as := []) (st := []) rfl dX10_readsTerm_55 mOKX10_readsFactor ⟨mlX10_181, imX10_readsFactor, seX10_readsFactor⟩ (by decide) (Nat.le_of_ble_eq_true rfl) rfl (Nat.le_of_ble_eq_true rfl) ⟨by decide, rfl⟩ o9 (CV.mono h ?_)
    clear h
    intro S55 I55 R55 h
    refine e_goto (tgt := 47) dX10_readsTerm_58 (by decide) ?_
    exact e_sub (ls2 := [(0, vR x0), (1, vI x1)]) [0, 1] rfl h
set_option maxRecDepth 100000 in
set_option maxHeartbeats 4000000 in
theorem bX10_readsTerm_86 {G : Gl} {S : Sh} {I : MI} {R : MR} {Q : Sh → MI → MR → Prop} {x0 : Nat} {y0 : Int} {y1 : Nat} {y2 : Nat} (h : (sT S y1 = 10 ∧ ((pX10_modulo S I y1 y0) ∧ (sT S x0 = 10 ∧ (sT S (R x0 17) = 21 ∧ (((0 : Int) ≤ 0 ∧ 0 < (sL S (R x0 17) : Int)) ∧ (((0 : Int) ≤ 1 ∧ 1 < (sL S (R x0 17) : Int)) ∧ (((0 : Int) ≤ 2 ∧ 2 < (sL S (R x0 17) : Int)) ∧ (sT S y2 = 10 ∧ (CV G MX10_heaps [vR y2, vI (vX10_modulo I y1 y0), vI (I (R x0 17) (Int.toNat 0)), vI (I (R x0 17) (Int.toNat 1)), vI (I (R x0 17) (Int.toNat 2))] S I R (fun S107 I107 R107 => Q S107 I107 R107))))))))))) : LX10_readsTerm_86 G x0 y0 y1 y2 S I R Q := by
  show E G MX10_readsTerm 86 [(0, vR x0)] [vL y0, vR y1, vR y2] S I R (qV Q)
  have o11 := h.1
  replace h := h.2
  have o12 := h.1
  replace h := h.2
  refine i_VI (μ' := MX10_modulo) (ci := 9) (r := y1) (as := [vL y0]) (st := [vR y2]) rfl dX10_readsTerm_86 mOKX10_modulo ⟨mlX10_184, imX10_modulo, seX10_modulo⟩ (by decide) (Nat.le_of_ble_eq_true rfl) rfl (Nat.le_of_ble_eq_true rfl) ⟨by decide, rfl⟩ o11 (sX10_modulo o12 ?_)
  refine e_aload_n 0 dX10_readsTerm_89 rfl ?_
  have o13 := h.1
  replace h := h.2
  refine e_getR dX10_readsTerm_90 flX10_43 rfl o13 ?_
  refine e_iconst dX10_readsTerm_93 (by unfold InR; decide) ?_
  have o14 := h.1
  replace h := h.2
  have o15 := h.1
  replace h := h.2
  refine e_iald dX10_readsTerm_94 o14 o15 ?_
  refine e_aload_n 0 dX10_readsTerm_95 rfl ?_
  refine e_getR dX10_readsTerm_96 flX10_43 rfl o13 ?_
  refine e_iconst dX10_readsTerm_99 (by unfold InR; decide) ?_
  have o16 := h.1
  replace h := h.2
  refine e_iald dX10_readsTerm_100 o14 o16 ?_
  refine e_aload_n 0 dX10_readsTerm_101 rfl ?_
  refine e_getR dX10_readsTerm_102 flX10_43 rfl o13 ?_
  refine e_iconst dX10_readsTerm_105 (by unfold InR; decide) ?_
  have o17 := h.1
  replace h := h.2
  refine e_iald dX10_readsTerm_106 o14 o17 ?_
  have o18 := h.1
  replace h := h.2
  refine i_VV (μ' := MX10_heaps) (ci := 9) (r := y2) (as := [vI (vX10_modulo I y1 y0), vI (I (R x0 17) (Int.toNat 0)), vI (I (R x0 17) (Int.toNat 1)), vI (I (R x0 17) (Int.toNat 2))]) (st := []) rfl dX10_readsTerm_107 mOKX10_heaps ⟨mlX10_100, imX10_heaps, seX10_heaps⟩ (by decide) (Nat.le_of_ble_eq_true rfl) rfl (Nat.le_of_ble_eq_true rfl) ⟨by decide, rfl⟩ o18 (CV.mono h ?_)
  clear h
  intro S107 I107 R107 h
  exact e_return dX10_readsTerm_110 rfl ⟨rfl, h⟩

set_option maxRecDepth 100000 in
set_option maxHeartbeats 4000000 in
theorem bX10_passes {G : Gl} {S : Sh} {I : MI} {R : MR} {Q : Sh → MI → MR → Int → Prop} {x0 : Nat} {x1 : Int} (h : (sT S x0 = 10 ∧ (((I x0 13) ≠ 0 → Q S I R 0) ∧ (¬ ((I x0 13) ≠ 0) → ((pX10_see S I R x0 (I x0 12)) ∧ (((vX10_see I R x0 (I x0 12)) = x1 → (∀ I28, I28 = up2 I x0 12 (w32 ((I x0 12) + 1)) → (CV G MX10_skips [vR x0] S I28 R (fun S32 I32 R32 => Q S32 I32 R32 1)))) ∧ (¬ ((vX10_see I R x0 (I x0 12)) = x1) → Q S I R 0))))))) : CI G MX10_passes [vR x0, vI x1] S I R Q := by
  show E G MX10_passes 0 [(0, vR x0), (1, vI x1)] [] S I R (qI Q)
  refine e_aload_n 0 dX10_passes_0 rfl ?_
  have o1 := h.1
  replace h := h.2
  refine e_getI dX10_passes_1 flX10_150 rfl o1 ?_
  refine e_if_ne (tgt := 19) dX10_passes_4 (by decide) (fun c => ?_) (fun c => ?_)
  · replace h := h.1 c
    refine e_iconst dX10_passes_19 (by unfold InR; decide) ?_
    exact e_zreturn dX10_passes_20 rfl (by decide) ⟨_, rfl, h⟩
  · replace h := h.2 c
    refine e_aload_n 0 dX10_passes_7 rfl ?_
    refine e_aload_n 0 dX10_passes_8 rfl ?_
    refine e_getI dX10_passes_9 flX10_144 rfl o1 ?_
    have o2 := h.1
    replace h := h.2
    refine i_VI (μ' := MX10_see) (ci := 9) (r := x0) (as := [vI (I x0 12)]) (st := []) rfl dX10_passes_12 mOKX10_see ⟨mlX10_147, imX10_see, seX10_see⟩ (by decide) (Nat.le_of_ble_eq_true rfl) rfl (Nat.le_of_ble_eq_true rfl) ⟨by decide, rfl⟩ o1 (sX10_see o2 ?_)
    refine e_iload_n 1 dX10_passes_15 rfl ?_
    refine e_icmp_eq (tgt := 21) dX10_passes_16 (by decide) (fun c => ?_) (fun c => ?_)
    · replace h := h.1 c
      refine e_aload_n 0 dX10_passes_21 rfl ?_
      refine e_aload_n 0 dX10_passes_22 rfl ?_
      refine e_getI dX10_passes_23 flX10_144 rfl o1 ?_
      refine e_iconst dX10_passes_26 (by unfold InR; decide) ?_
      refine e_iadd dX10_passes_27 ?_
      obtain ⟨I28, eI28⟩ : ∃ z : MI, z = up2 I x0 12 (w32 ((I x0 12) + 1)) := ⟨_, rfl⟩
      replace h := h I28 eI28
      refine e_putI dX10_passes_28 flX10_144 rfl (Or.inl rfl) o1 (eqI eI28 ?_)
      refine e_aload_n 0 dX10_passes_31 rfl ?_
      refine i_VV (μ' := MX10_skips) (ci := 9) (r := x0) (as := []) (st := []) rfl dX10_passes_32 mOKX10_skips ⟨mlX10_167, imX10_skips, seX10_skips⟩ (by decide) (Nat.le_of_ble_eq_true rfl) rfl (Nat.le_of_ble_eq_true rfl) ⟨by decide, rfl⟩ o1 (CV.mono h ?_)
      clear h
      intro S32 I32 R32 h
      refine e_iconst dX10_passes_35 (by unfold InR; decide) ?_
      exact e_zreturn dX10_passes_36 rfl (by decide) ⟨_, rfl, h⟩
    · replace h := h.2 c
      refine e_iconst dX10_passes_19 (by unfold InR; decide) ?_
      exact e_zreturn dX10_passes_20 rfl (by decide) ⟨_, rfl, h⟩

def LX10_poly_66 (G : Gl) (x0 : Nat) (x1 : Int) (x2 : Int) (x3 : Int) (S : Sh) (I : MI) (R : MR) (Q : Sh → MI → MR → Int → Prop) : Prop := E G MX10_poly 66 [(0, vR x0), (1, vI x1), (2, vI x2), (3, vI x3)] [] S I R (qI Q)
def LX10_poly_155 (G : Gl) (x0 : Nat) (x1 : Int) (x2 : Int) (S : Sh) (I : MI) (R : MR) (Q : Sh → MI → MR → Int → Prop) : Prop := E G MX10_poly 155 [(0, vR x0), (1, vI x1), (2, vI x2)] [] S I R (qI Q)
def LX10_poly_97 (G : Gl) (x0 : Nat) (x1 : Int) (x2 : Int) (x4 : Int) (y0 : Int) (S : Sh) (I : MI) (R : MR) (Q : Sh → MI → MR → Int → Prop) : Prop := E G MX10_poly 97 [(0, vR x0), (1, vI x1), (2, vI x2), (4, vI x4)] [vI y0] S I R (qI Q)
def LX10_poly_183 (G : Gl) (x0 : Nat) (x1 : Int) (S : Sh) (I : MI) (R : MR) (Q : Sh → MI → MR → Int → Prop) : Prop := E G MX10_poly 183 [(0, vR x0), (1, vI x1)] [] S I R (qI Q)
set_option maxRecDepth 100000 in
set_option maxHeartbeats 4000000 in
theorem bX10_poly {G : Gl} {S : Sh} {I : MI} {R : MR} {Q : Sh → MI → MR → Int → Prop} {x0 : Nat} {x1 : Int} (h : (sT S x0 = 10 ∧ (∀ I2, I2 = up2 I x0 0 0 → (∀ I7, I7 = up2 I2 x0 13 0 → (∀ I12, I12 = up2 I7 x0 14 0 → (∀ I17, I17 = up2 I12 x0 15 (-1) → ((pX10_isSlot S x0 x1) ∧ (((vX10_isSlot x0 x1) ≠ 0 → (∀ I42, I42 = up2 I17 x0 12 0 → (∀ I47, I47 = up2 I42 x0 9 0 → (CV G MX10_skips [vR x0] S I47 R (fun S51 I51 R51 => (sT S51 x0 = 10 ∧ (CI G MX10_passes [vR x0, vI 45] S51 I51 R51 (fun S58 I58 R58 x58_ => (sT S58 x0 = 10 ∧ (CV G MX10_readsTerm [vR x0, vI x58_] S58 I58 R58 (fun S61 I61 R61 => LX10_poly_66 G x0 x1 (I17 x0 11) 1 S61 I61 R61 Q))))))))))) ∧ (¬ ((vX10_isSlot x0 x1) ≠ 0) → (∀ I35, I35 = up2 I17 x0 11 0 → Q S I35 R (-1))))))))))) : CI G MX10_poly [vR x0, vI x1] S I R Q := by
  show E G MX10_poly 0 [(0, vR x0), (1, vI x1)] [] S I R (qI Q)
  refine e_aload_n 0 dX10_poly_0 rfl ?_
  refine e_iconst dX10_poly_1 (by unfold InR; decide) ?_
  have o1 := h.1
  replace h := h.2
  obtain ⟨I2, eI2⟩ : ∃ z : MI, z = up2 I x0 0 0 := ⟨_, rfl⟩
  replace h := h I2 eI2
  refine e_putI dX10_poly_2 flX10_65 rfl (Or.inl rfl) o1 (eqI eI2 ?_)
  refine e_aload_n 0 dX10_poly_5 rfl ?_
  refine e_iconst dX10_poly_6 (by unfold InR; decide) ?_
  obtain ⟨I7, eI7⟩ : ∃ z : MI, z = up2 I2 x0 13 0 := ⟨_, rfl⟩
  replace h := h I7 eI7
  refine e_putZ dX10_poly_7 flX10_150 rfl (Or.inl rfl) o1 (by decide) (eqI eI7 ?_)
  refine e_aload_n 0 dX10_poly_10 rfl ?_
  refine e_iconst dX10_poly_11 (by unfold InR; decide) ?_
  obtain ⟨I12, eI12⟩ : ∃ z : MI, z = up2 I7 x0 14 0 := ⟨_, rfl⟩
  replace h := h I12 eI12
  refine e_putI dX10_poly_12 flX10_153 rfl (Or.inl rfl) o1 (eqI eI12 ?_)
  refine e_aload_n 0 dX10_poly_15 rfl ?_
  refine e_iconst dX10_poly_16 (by unfold InR; decide) ?_
  obtain ⟨I17, eI17⟩ : ∃ z : MI, z = up2 I12 x0 15 (-1) := ⟨_, rfl⟩
  replace h := h I17 eI17
  refine e_putI dX10_poly_17 flX10_40 rfl (Or.inl rfl) o1 (eqI eI17 ?_)
  refine e_aload_n 0 dX10_poly_20 rfl ?_
  refine e_getI dX10_poly_21 flX10_137 rfl o1 ?_
  refine e_istore_n (ls2 := [(2, vI (I17 x0 11)), (0, vR x0), (1, vI x1)]) dX10_poly_24 (by decide) rfl ?_
  refine e_aload_n 1 dX10_poly_25 rfl ?_
  refine e_iload_n 2 dX10_poly_26 rfl ?_
  have o2 := h.1
  replace h := h.2
  refine i_VI (μ' := MX10_isSlot) (ci := 9) (r := x0) (as := [vI x1]) (st := []) rfl dX10_poly_27 mOKX10_isSlot ⟨mlX10_188, imX10_isSlot, seX10_isSlot⟩ (by decide) (Nat.le_of_ble_eq_true rfl) rfl (Nat.le_of_ble_eq_true rfl) ⟨by decide, rfl⟩ o1 (sX10_isSlot o2 ?_)
  refine e_if_ne (tgt := 40) dX10_poly_30 (by decide) (fun c => ?_) (fun c => ?_)
  · replace h := h.1 c
    refine e_aload_n 1 dX10_poly_40 rfl ?_
    refine e_iconst dX10_poly_41 (by unfold InR; decide) ?_
    obtain ⟨I42, eI42⟩ : ∃ z : MI, z = up2 I17 x0 12 0 := ⟨_, rfl⟩
    replace h := h I42 eI42
    refine e_putI dX10_poly_42 flX10_144 rfl (Or.inl rfl) o1 (eqI eI42 ?_)
    refine e_aload_n 1 dX10_poly_45 rfl ?_
    refine e_iconst dX10_poly_46 (by unfold InR; decide) ?_
    obtain ⟨I47, eI47⟩ : ∃ z : MI, z = up2 I42 x0 9 0 := ⟨_, rfl⟩
    replace h := h I47 eI47
    refine e_putI dX10_poly_47 flX10_93 rfl (Or.inl rfl) o1 (eqI eI47 ?_)
    refine e_aload_n 1 dX10_poly_50 rfl ?_
    refine i_VV (μ' := MX10_skips) (ci := 9) (r := x0) (as := []) (st := []) rfl dX10_poly_51 mOKX10_skips ⟨mlX10_167, imX10_skips, seX10_skips⟩ (by decide) (Nat.le_of_ble_eq_true rfl) rfl (Nat.le_of_ble_eq_true rfl) ⟨by decide, rfl⟩ o1 (CV.mono h ?_)
    clear h
    intro S51 I51 R51 h
    refine e_aload_n 1 dX10_poly_54 rfl ?_
    refine e_aload_n 1 dX10_poly_55 rfl ?_
    refine e_bipush (x := 45) dX10_poly_56 ⟨by decide +kernel, by unfold InR; decide⟩ ?_
    have o3 := h.1
    replace h := h.2
    refine i_VI (μ' := MX10_passes) (ci := 9) (r := x0) (as := [vI 45]) (st := [vR x0]) rfl dX10_poly_58 mOKX10_passes ⟨mlX10_191, imX10_passes, seX10_passes⟩ (by decide) (Nat.le_of_ble_eq_true rfl) rfl (Nat.le_of_ble_eq_true rfl) ⟨by decide, rfl⟩ o3 (CI.mono h ?_)
    clear h
    intro S58 I58 R58 x58_ h
    have o4 := h.1
    replace h := h.2
    refine i_VV (μ' := MX10_readsTerm) (ci := 9) (r := x0) (as := [vI x58_]) (st := []) rfl dX10_poly_61 mOKX10_readsTerm ⟨mlX10_194, imX10_readsTerm, seX10_readsTerm⟩ (by decide) (Nat.le_of_ble_eq_true rfl) rfl (Nat.le_of_ble_eq_true rfl) ⟨by decide, rfl⟩ o4 (CV.mono h ?_)
    clear h
    intro S61 I61 R61 h
    refine e_iconst dX10_poly_64 (by unfold InR; decide) ?_
    refine e_istore_n (ls2 := [(3, vI 1), (2, vI (I17 x0 11)), (0, vR x0), (1, vI x1)]) dX10_poly_65 (by decide) rfl ?_
    exact e_sub (ls2 := [(0, vR x0), (1, vI x1), (2, vI (I17 x0 11)), (3, vI 1)]) [2, 3, 1, 0] rfl h
  · replace h := h.2 c
    refine e_aload_n 1 dX10_poly_33 rfl ?_
    refine e_iconst dX10_poly_34 (by unfold InR; decide) ?_
    obtain ⟨I35, eI35⟩ : ∃ z : MI, z = up2 I17 x0 11 0 := ⟨_, rfl⟩
    replace h := h I35 eI35
    refine e_putI dX10_poly_35 flX10_137 rfl (Or.inl rfl) o1 (eqI eI35 ?_)
    refine e_iconst dX10_poly_38 (by unfold InR; decide) ?_
    exact e_ireturn dX10_poly_39 rfl ⟨_, rfl, h⟩
set_option maxRecDepth 100000 in
set_option maxHeartbeats 4000000 in
theorem bX10_poly_66 {G : Gl} {S : Sh} {I : MI} {R : MR} {Q : Sh → MI → MR → Int → Prop} {x0 : Nat} {x1 : Int} {x2 : Int} {x3 : Int} (h : ((x3 = 0 → (sT S x0 = 10 ∧ (((I x0 13) ≠ 0 → LX10_poly_155 G x0 x1 x2 S I R Q) ∧ (¬ ((I x0 13) ≠ 0) → (((I x0 11) ≤ (I x0 12) → LX10_poly_155 G x0 x1 x2 S I R Q) ∧ (¬ ((I x0 11) ≤ (I x0 12)) → (CV G MX10_faultyAt [vR x0, vI 1, vI (I x0 12)] S I R (fun S152 I152 R152 => LX10_poly_155 G x0 x1 x2 S152 I152 R152 Q)))))))) ∧ (¬ (x3 = 0) → (sT S x0 = 10 ∧ (CI G MX10_passes [vR x0, vI 43] S I R (fun S73 I73 R73 x73_ => ((x73_ ≠ 0 → LX10_poly_97 G x0 x1 x2 x73_ 0 S73 I73 R73 Q) ∧ (¬ (x73_ ≠ 0) → (sT S73 x0 = 10 ∧ (CI G MX10_passes [vR x0, vI 45] S73 I73 R73 (fun S86 I86 R86 x86_ => ((x86_ = 0 → LX10_poly_97 G x0 x1 x2 x73_ 0 S86 I86 R86 Q) ∧ (¬ (x86_ = 0) → LX10_poly_97 G x0 x1 x2 x73_ 1 S86 I86 R86 Q))))))))))))) : LX10_poly_66 G x0 x1 x2 x3 S I R Q := by
  show E G MX10_poly 66 [(0, vR x0), (1, vI x1), (2, vI x2), (3, vI x3)] [] S I R (qI Q)
  refine e_iload_n 3 dX10_poly_66 rfl ?_
  refine e_if_eq (tgt := 128) dX10_poly_67 (by decide) (fun c => ?_) (fun c => ?_)
  · replace h := h.1 c
    refine e_aload_n 0 dX10_poly_128 rfl ?_
    have o5 := h.1
    replace h := h.2
    refine e_getI dX10_poly_129 flX10_150 rfl o5 ?_
    refine e_if_ne (tgt := 155) dX10_poly_132 (by decide) (fun c => ?_) (fun c => ?_)
    · replace h := h.1 c
      exact e_sub (ls2 := [(0, vR x0), (1, vI x1), (2, vI x2)]) [0, 1, 2] rfl h
    · replace h := h.2 c
      refine e_aload_n 0 dX10_poly_135 rfl ?_
      refine e_getI dX10_poly_136 flX10_144 rfl o5 ?_
      refine e_aload_n 0 dX10_poly_139 rfl ?_
      refine e_getI dX10_poly_140 flX10_137 rfl o5 ?_
      refine e_icmp_ge (tgt := 155) dX10_poly_143 (by decide) (fun c => ?_) (fun c => ?_)
      · replace h := h.1 c
        exact e_sub (ls2 := [(0, vR x0), (1, vI x1), (2, vI x2)]) [0, 1, 2] rfl h
      · replace h := h.2 c
        refine e_aload_n 0 dX10_poly_146 rfl ?_
        refine e_iconst dX10_poly_147 (by unfold InR; decide) ?_
        refine e_aload_n 0 dX10_poly_148 rfl ?_
        refine e_getI dX10_poly_149 flX10_144 rfl o5 ?_
        refine i_VV (μ' := MX10_faultyAt) (ci := 9) (r := x0) (as := [vI 1, vI (I x0 12)]) (st := []) rfl dX10_poly_152 mOKX10_faultyAt ⟨mlX10_163, imX10_faultyAt, seX10_faultyAt⟩ (by decide) (Nat.le_of_ble_eq_true rfl) rfl (Nat.le_of_ble_eq_true rfl) ⟨by decide, rfl⟩ o5 (CV.mono h ?_)
        clear h
        intro S152 I152 R152 h
        exact e_sub (ls2 := [(0, vR x0), (1, vI x1), (2, vI x2)]) [0, 1, 2] rfl h
  · replace h := h.2 c
    refine e_aload_n 0 dX10_poly_70 rfl ?_
    refine e_bipush (x := 43) dX10_poly_71 ⟨by decide +kernel, by unfold InR; decide⟩ ?_
    have o6 := h.1
    replace h := h.2
    refine i_VI (μ' := MX10_passes) (ci := 9) (r := x0) (as := [vI 43]) (st := []) rfl dX10_poly_73 mOKX10_passes ⟨mlX10_191, imX10_passes, seX10_passes⟩ (by decide) (Nat.le_of_ble_eq_true rfl) rfl (Nat.le_of_ble_eq_true rfl) ⟨by decide, rfl⟩ o6 (CI.mono h ?_)
    clear h
    intro S73 I73 R73 x73_ h
    refine e_istore (ls2 := [(4, vI x73_), (0, vR x0), (1, vI x1), (2, vI x2), (3, vI x3)]) dX10_poly_76 (by decide) rfl ?_
    refine e_iload 0 dX10_poly_78 rfl ?_
    refine e_if_ne (tgt := 96) dX10_poly_80 (by decide) (fun c => ?_) (fun c => ?_)
    · replace h := h.1 c
      refine e_iconst dX10_poly_96 (by unfold InR; decide) ?_
      exact e_sub (ls2 := [(0, vR x0), (1, vI x1), (2, vI x2), (4, vI x73_)]) [1, 2, 3, 0] rfl h
    · replace h := h.2 c
      refine e_aload_n 1 dX10_poly_83 rfl ?_
      refine e_bipush (x := 45) dX10_poly_84 ⟨by decide +kernel, by unfold InR; decide⟩ ?_
      have o7 := h.1
      replace h := h.2
      refine i_VI (μ' := MX10_passes) (ci := 9) (r := x0) (as := [vI 45]) (st := []) rfl dX10_poly_86 mOKX10_passes ⟨mlX10_191, imX10_passes, seX10_passes⟩ (by decide) (Nat.le_of_ble_eq_true rfl) rfl (Nat.le_of_ble_eq_true rfl) ⟨by decide, rfl⟩ o7 (CI.mono h ?_)
      clear h
      intro S86 I86 R86 x86_ h
      refine e_if_eq (tgt := 96) dX10_poly_89 (by decide) (fun c => ?_) (fun c => ?_)
      · replace h := h.1 c
        refine e_iconst dX10_poly_96 (by unfold InR; decide) ?_
        exact e_sub (ls2 := [(0, vR x0), (1, vI x1), (2, vI x2), (4, vI x73_)]) [1, 2, 3, 0] rfl h
      · replace h := h.2 c
        refine e_iconst dX10_poly_92 (by unfold InR; decide) ?_
        refine e_goto (tgt := 97) dX10_poly_93 (by decide) ?_
        exact e_sub (ls2 := [(0, vR x0), (1, vI x1), (2, vI x2), (4, vI x73_)]) [1, 2, 3, 0] rfl h
set_option maxRecDepth 100000 in
set_option maxHeartbeats 4000000 in
theorem bX10_poly_155 {G : Gl} {S : Sh} {I : MI} {R : MR} {Q : Sh → MI → MR → Int → Prop} {x0 : Nat} {x1 : Int} {x2 : Int} (h : (sT S x0 = 10 ∧ (∀ I157, I157 = up2 I x0 11 0 → (((I157 x0 13) ≠ 0 → LX10_poly_183 G x0 x1 S I157 R Q) ∧ (¬ ((I157 x0 13) ≠ 0) → (CI G MX10_takes [vR x0, vI 290] S I157 R (fun S171 I171 R171 x171_ => ((x171_ ≠ 0 → LX10_poly_183 G x0 x1 S171 I171 R171 Q) ∧ (¬ (x171_ ≠ 0) → (sT S171 x0 = 10 ∧ (CV G MX10_faultyAt [vR x0, vI 3, vI x2] S171 I171 R171 (fun S180 I180 R180 => LX10_poly_183 G x0 x1 S180 I180 R180 Q)))))))))))) : LX10_poly_155 G x0 x1 x2 S I R Q := by
  show E G MX10_poly 155 [(0, vR x0), (1, vI x1), (2, vI x2)] [] S I R (qI Q)
  refine e_aload_n 0 dX10_poly_155 rfl ?_
  refine e_iconst dX10_poly_156 (by unfold InR; decide) ?_
  have o8 := h.1
  replace h := h.2
  obtain ⟨I157, eI157⟩ : ∃ z : MI, z = up2 I x0 11 0 := ⟨_, rfl⟩
  replace h := h I157 eI157
  refine e_putI dX10_poly_157 flX10_137 rfl (Or.inl rfl) o8 (eqI eI157 ?_)
  refine e_aload_n 0 dX10_poly_160 rfl ?_
  refine e_getI dX10_poly_161 flX10_150 rfl o8 ?_
  refine e_if_ne (tgt := 183) dX10_poly_164 (by decide) (fun c => ?_) (fun c => ?_)
  · replace h := h.1 c
    exact e_sub (ls2 := [(0, vR x0), (1, vI x1)]) [0, 1] rfl h
  · replace h := h.2 c
    refine e_aload_n 0 dX10_poly_167 rfl ?_
    refine e_sipush (x := 290) dX10_poly_168 ⟨by decide +kernel, by unfold InR; decide⟩ ?_
    refine i_VI (μ' := MX10_takes) (ci := 9) (r := x0) (as := [vI 290]) (st := []) rfl dX10_poly_171 mOKX10_takes ⟨mlX10_128, imX10_takes, seX10_takes⟩ (by decide) (Nat.le_of_ble_eq_true rfl) rfl (Nat.le_of_ble_eq_true rfl) ⟨by decide, rfl⟩ o8 (CI.mono h ?_)
    clear h
    intro S171 I171 R171 x171_ h
    refine e_if_ne (tgt := 183) dX10_poly_174 (by decide) (fun c => ?_) (fun c => ?_)
    · replace h := h.1 c
      exact e_sub (ls2 := [(0, vR x0), (1, vI x1)]) [0, 1] rfl h
    · replace h := h.2 c
      refine e_aload_n 0 dX10_poly_177 rfl ?_
      refine e_iconst dX10_poly_178 (by unfold InR; decide) ?_
      refine e_iload_n 2 dX10_poly_179 rfl ?_
      have o9 := h.1
      replace h := h.2
      refine i_VV (μ' := MX10_faultyAt) (ci := 9) (r := x0) (as := [vI 3, vI x2]) (st := []) rfl dX10_poly_180 mOKX10_faultyAt ⟨mlX10_163, imX10_faultyAt, seX10_faultyAt⟩ (by decide) (Nat.le_of_ble_eq_true rfl) rfl (Nat.le_of_ble_eq_true rfl) ⟨by decide, rfl⟩ o9 (CV.mono h ?_)
      clear h
      intro S180 I180 R180 h
      exact e_sub (ls2 := [(0, vR x0), (1, vI x1)]) [0, 1] rfl h
set_option maxRecDepth 100000 in
set_option maxHeartbeats 4000000 in
theorem bX10_poly_97 {G : Gl} {S : Sh} {I : MI} {R : MR} {Q : Sh → MI → MR → Int → Prop} {x0 : Nat} {x1 : Int} {x2 : Int} {x4 : Int} {y0 : Int} (h : ((x4 ≠ 0 → (sT S x0 = 10 ∧ (CV G MX10_readsTerm [vR x0, vI y0] S I R (fun S122 I122 R122 => LX10_poly_66 G x0 x1 x2 1 S122 I122 R122 Q)))) ∧ (¬ (x4 ≠ 0) → ((y0 = 0 → LX10_poly_66 G x0 x1 x2 0 S I R Q) ∧ (¬ (y0 = 0) → (sT S x0 = 10 ∧ (CV G MX10_readsTerm [vR x0, vI y0] S I R (fun S122 I122 R122 => LX10_poly_66 G x0 x1 x2 1 S122 I122 R122 Q)))))))) : LX10_poly_97 G x0 x1 x2 x4 y0 S I R Q := by
  show E G MX10_poly 97 [(0, vR x0), (1, vI x1), (2, vI x2), (4, vI x4)] [vI y0] S I R (qI Q)
  refine e_istore (ls2 := [(5, vI y0), (0, vR x0), (1, vI x1), (2, vI x2), (4, vI x4)]) dX10_poly_97 (by decide) rfl ?_
  refine e_iload 4 dX10_poly_99 rfl ?_
  refine e_if_ne (tgt := 109) dX10_poly_101 (by decide) (fun c => ?_) (fun c => ?_)
  · replace h := h.1 c
    refine e_iconst dX10_poly_109 (by unfold InR; decide) ?_
    refine e_goto (tgt := 114) dX10_poly_110 (by decide) ?_
    refine e_istore_n (ls2 := [(3, vI 1), (5, vI y0), (0, vR x0), (1, vI x1), (2, vI x2), (4, vI x4)]) dX10_poly_114 (by decide) rfl ?_
    refine e_iload_n 0 dX10_poly_115 rfl ?_
    refine e_if_eq (tgt := 125) dX10_poly_116 (by decide) (fun c => absurd c (by decide)) (fun _ => ?_)
    refine e_aload_n 2 dX10_poly_119 rfl ?_
    refine e_iload 1 dX10_poly_120 rfl ?_
    have o10 := h.1
    replace h := h.2
    refine i_VV (μ' := MX10_readsTerm) (ci := 9) (r := x0) (as := [vI y0]) (st := []) rfl dX10_poly_122 mOKX10_readsTerm ⟨mlX10_194, imX10_readsTerm, seX10_readsTerm⟩ (by decide) (Nat.le_of_ble_eq_true rfl) rfl (Nat.le_of_ble_eq_true rfl) ⟨by decide, rfl⟩ o10 (CV.mono h ?_)
    clear h
    intro S122 I122 R122 h
    refine e_goto (tgt := 66) dX10_poly_125 (by decide) ?_
    exact e_sub (ls2 := [(0, vR x0), (1, vI x1), (2, vI x2), (3, vI 1)]) [2, 3, 4, 0] rfl h
  · replace h := h.2 c
    refine e_iload 0 dX10_poly_104 rfl ?_
    refine e_if_eq (tgt := 113) dX10_poly_106 (by decide) (fun c => ?_) (fun c => ?_)
    · replace h := h.1 c
      refine e_iconst dX10_poly_113 (by unfold InR; decide) ?_
      refine e_istore_n (ls2 := [(3, vI 0), (5, vI y0), (0, vR x0), (1, vI x1), (2, vI x2), (4, vI x4)]) dX10_poly_114 (by decide) rfl ?_
      refine e_iload_n 0 dX10_poly_115 rfl ?_
      refine e_if_eq (tgt := 125) dX10_poly_116 (by decide) (fun _ => ?_) (fun c => absurd (by decide) c)
      refine e_goto (tgt := 66) dX10_poly_125 (by decide) ?_
      exact e_sub (ls2 := [(0, vR x0), (1, vI x1), (2, vI x2), (3, vI 0)]) [2, 3, 4, 0] rfl h
    · replace h := h.2 c
      refine e_iconst dX10_poly_109 (by unfold InR; decide) ?_
      refine e_goto (tgt := 114) dX10_poly_110 (by decide) ?_
      refine e_istore_n (ls2 := [(3, vI 1), (5, vI y0), (0, vR x0), (1, vI x1), (2, vI x2), (4, vI x4)]) dX10_poly_114 (by decide) rfl ?_
      refine e_iload_n 0 dX10_poly_115 rfl ?_
      refine e_if_eq (tgt := 125) dX10_poly_116 (by decide) (fun c => absurd c (by decide)) (fun _ => ?_)
      refine e_aload_n 2 dX10_poly_119 rfl ?_
      refine e_iload 1 dX10_poly_120 rfl ?_
      have o11 := h.1
      replace h := h.2
      refine i_VV (μ' := MX10_readsTerm) (ci := 9) (r := x0) (as := [vI y0]) (st := []) rfl dX10_poly_122 mOKX10_readsTerm ⟨mlX10_194, imX10_readsTerm, seX10_readsTerm⟩ (by decide) (Nat.le_of_ble_eq_true rfl) rfl (Nat.le_of_ble_eq_true rfl) ⟨by decide, rfl⟩ o11 (CV.mono h ?_)
      clear h
      intro S122 I122 R122 h
      refine e_goto (tgt := 66) dX10_poly_125 (by decide) ?_
      exact e_sub (ls2 := [(0, vR x0), (1, vI x1), (2, vI x2), (3, vI 1)]) [2, 3, 4, 0] rfl h
set_option maxRecDepth 100000 in
set_option maxHeartbeats 4000000 in
theorem bX10_poly_183 {G : Gl} {S : Sh} {I : MI} {R : MR} {Q : Sh → MI → MR → Int → Prop} {x0 : Nat} {x1 : Int} (h : (sT S x0 = 10 ∧ (((I x0 13) = 0 → (CV G MX10_copies [vR x0, vI 290, vI x1] S I R (fun S197 I197 R197 => (sT S197 x0 = 10 ∧ (sT S197 (R197 x0 4) = 21 ∧ (((0 : Int) ≤ x1 ∧ x1 < (sL S197 (R197 x0 4) : Int)) ∧ Q S197 I197 R197 (I197 (R197 x0 4) (Int.toNat x1)))))))) ∧ (¬ ((I x0 13) = 0) → Q S I R (-1))))) : LX10_poly_183 G x0 x1 S I R Q := by
  show E G MX10_poly 183 [(0, vR x0), (1, vI x1)] [] S I R (qI Q)
  refine e_aload_n 0 dX10_poly_183 rfl ?_
  have o12 := h.1
  replace h := h.2
  refine e_getI dX10_poly_184 flX10_150 rfl o12 ?_
  refine e_if_eq (tgt := 192) dX10_poly_187 (by decide) (fun c => ?_) (fun c => ?_)
  · replace h := h.1 c
    refine e_aload_n 0 dX10_poly_192 rfl ?_
    refine e_sipush (x := 290) dX10_poly_193 ⟨by decide +kernel, by unfold InR; decide⟩ ?_
    refine e_iload_n 1 dX10_poly_196 rfl ?_
    refine i_VV (μ' := MX10_copies) (ci := 9) (r := x0) (as := [vI 290, vI x1]) (st := []) rfl dX10_poly_197 mOKX10_copies ⟨mlX10_198, imX10_copies, seX10_copies⟩ (by decide) (Nat.le_of_ble_eq_true rfl) rfl (Nat.le_of_ble_eq_true rfl) ⟨by decide, rfl⟩ o12 (CV.mono h ?_)
    clear h
    intro S197 I197 R197 h
    refine e_aload_n 0 dX10_poly_200 rfl ?_
    have o13 := h.1
    replace h := h.2
    refine e_getR dX10_poly_201 flX10_20 rfl o13 ?_
    refine e_iload_n 1 dX10_poly_204 rfl ?_
    have o14 := h.1
    replace h := h.2
    have o15 := h.1
    replace h := h.2
    refine e_iald dX10_poly_205 o14 o15 ?_
    exact e_ireturn dX10_poly_206 rfl ⟨_, rfl, h⟩
  · replace h := h.2 c
    refine e_iconst dX10_poly_190 (by unfold InR; decide) ?_
    exact e_ireturn dX10_poly_191 rfl ⟨_, rfl, h⟩

set_option maxRecDepth 100000 in
set_option maxHeartbeats 4000000 in
theorem bX10_fault {G : Gl} {S : Sh} {I : MI} {R : MR} {Q : Sh → MI → MR → Int → Prop} {x0 : Nat} {x1 : Int} (h : (sT S x0 = 10 ∧ (∀ I2, I2 = up2 I x0 0 0 → ((x1 ≠ 0 → ((x1 ≠ 1 → Q S I2 R (-1)) ∧ (¬ (x1 ≠ 1) → Q S I2 R (I2 x0 15)))) ∧ (¬ (x1 ≠ 0) → Q S I2 R (I2 x0 14)))))) : CI G MX10_fault [vR x0, vI x1] S I R Q := by
  show E G MX10_fault 0 [(0, vR x0), (1, vI x1)] [] S I R (qI Q)
  refine e_aload_n 0 dX10_fault_0 rfl ?_
  refine e_iconst dX10_fault_1 (by unfold InR; decide) ?_
  have o1 := h.1
  replace h := h.2
  obtain ⟨I2, eI2⟩ : ∃ z : MI, z = up2 I x0 0 0 := ⟨_, rfl⟩
  replace h := h I2 eI2
  refine e_putI dX10_fault_2 flX10_65 rfl (Or.inl rfl) o1 (eqI eI2 ?_)
  refine e_iload_n 1 dX10_fault_5 rfl ?_
  refine e_if_ne (tgt := 16) dX10_fault_6 (by decide) (fun c => ?_) (fun c => ?_)
  · replace h := h.1 c
    refine e_iload_n 1 dX10_fault_16 rfl ?_
    refine e_iconst dX10_fault_17 (by unfold InR; decide) ?_
    refine e_icmp_ne (tgt := 28) dX10_fault_18 (by decide) (fun c => ?_) (fun c => ?_)
    · replace h := h.1 c
      refine e_iconst dX10_fault_28 (by unfold InR; decide) ?_
      exact e_ireturn dX10_fault_29 rfl ⟨_, rfl, h⟩
    · replace h := h.2 c
      refine e_aload_n 0 dX10_fault_21 rfl ?_
      refine e_getI dX10_fault_22 flX10_40 rfl o1 ?_
      refine e_goto (tgt := 29) dX10_fault_25 (by decide) ?_
      exact e_ireturn dX10_fault_29 rfl ⟨_, rfl, h⟩
  · replace h := h.2 c
    refine e_aload_n 0 dX10_fault_9 rfl ?_
    refine e_getI dX10_fault_10 flX10_153 rfl o1 ?_
    refine e_goto (tgt := 29) dX10_fault_13 (by decide) ?_
    exact e_ireturn dX10_fault_29 rfl ⟨_, rfl, h⟩

def LX10_feed_23 (G : Gl) (x0 : Nat) (x1 : Int) (x2 : Int) (x3 : Int) (x4 : Int) (x5 : Int) (x6 : Int) (S : Sh) (I : MI) (R : MR) (Q : Sh → MI → MR → Int → Prop) : Prop := E G MX10_feed 23 [(0, vR x0), (1, vI x1), (2, vI x2), (3, vI x3), (4, vI x4), (5, vI x5), (6, vI x6)] [] S I R (qI Q)
def LX10_feed_76 (G : Gl) (x0 : Nat) (x1 : Int) (x2 : Int) (x3 : Int) (x4 : Int) (x5 : Int) (x6 : Int) (y0 : Int) (S : Sh) (I : MI) (R : MR) (Q : Sh → MI → MR → Int → Prop) : Prop := E G MX10_feed 76 [(0, vR x0), (1, vI x1), (2, vI x2), (3, vI x3), (4, vI x4), (5, vI x5), (6, vI x6)] [vI y0] S I R (qI Q)
set_option maxRecDepth 100000 in
set_option maxHeartbeats 4000000 in
theorem bX10_feed {G : Gl} {S : Sh} {I : MI} {R : MR} {Q : Sh → MI → MR → Int → Prop} {x0 : Nat} {x1 : Int} {x2 : Int} {x3 : Int} {x4 : Int} {x5 : Int} (h : (sT S x0 = 10 ∧ (∀ I2, I2 = up2 I x0 0 0 → (((w32 ((I2 x0 11) + 20)) ≤ 200 → LX10_feed_23 G x0 x1 x2 x3 x4 x5 0 S I2 R Q) ∧ (¬ ((w32 ((I2 x0 11) + 20)) ≤ 200) → Q S I2 R (-1)))))) : CI G MX10_feed [vR x0, vI x1, vI x2, vI x3, vI x4, vI x5] S I R Q := by
  show E G MX10_feed 0 [(0, vR x0), (1, vI x1), (2, vI x2), (3, vI x3), (4, vI x4), (5, vI x5)] [] S I R (qI Q)
  refine e_aload_n 0 dX10_feed_0 rfl ?_
  refine e_iconst dX10_feed_1 (by unfold InR; decide) ?_
  have o1 := h.1
  replace h := h.2
  obtain ⟨I2, eI2⟩ : ∃ z : MI, z = up2 I x0 0 0 := ⟨_, rfl⟩
  replace h := h I2 eI2
  refine e_putI dX10_feed_2 flX10_65 rfl (Or.inl rfl) o1 (eqI eI2 ?_)
  refine e_aload_n 0 dX10_feed_5 rfl ?_
  refine e_getI dX10_feed_6 flX10_137 rfl o1 ?_
  refine e_bipush (x := 20) dX10_feed_9 ⟨by decide +kernel, by unfold InR; decide⟩ ?_
  refine e_iadd dX10_feed_11 ?_
  refine e_sipush (x := 200) dX10_feed_12 ⟨by decide +kernel, by unfold InR; decide⟩ ?_
  refine e_icmp_le (tgt := 20) dX10_feed_15 (by decide) (fun c => ?_) (fun c => ?_)
  · replace h := h.1 c
    refine e_iconst dX10_feed_20 (by unfold InR; decide) ?_
    refine e_istore (ls2 := [(6, vI 0), (0, vR x0), (1, vI x1), (2, vI x2), (3, vI x3), (4, vI x4), (5, vI x5)]) dX10_feed_21 (by decide) rfl ?_
    exact e_sub (ls2 := [(0, vR x0), (1, vI x1), (2, vI x2), (3, vI x3), (4, vI x4), (5, vI x5), (6, vI 0)]) [1, 2, 3, 4, 5, 6, 0] rfl h
  · replace h := h.2 c
    refine e_iconst dX10_feed_18 (by unfold InR; decide) ?_
    exact e_ireturn dX10_feed_19 rfl ⟨_, rfl, h⟩
set_option maxRecDepth 100000 in
set_option maxHeartbeats 4000000 in
theorem bX10_feed_23 {G : Gl} {S : Sh} {I : MI} {R : MR} {Q : Sh → MI → MR → Int → Prop} {x0 : Nat} {x1 : Int} {x2 : Int} {x3 : Int} {x4 : Int} {x5 : Int} {x6 : Int} (h : ((20 ≤ x6 → (sT S x0 = 10 ∧ Q S I R (I x0 11))) ∧ (¬ (20 ≤ x6) → ((4 ≤ x6 → ((8 ≤ x6 → ((12 ≤ x6 → ((16 ≤ x6 → LX10_feed_76 G x0 x1 x2 x3 x4 x5 x6 x5 S I R Q) ∧ (¬ (16 ≤ x6) → LX10_feed_76 G x0 x1 x2 x3 x4 x5 x6 x4 S I R Q))) ∧ (¬ (12 ≤ x6) → LX10_feed_76 G x0 x1 x2 x3 x4 x5 x6 x3 S I R Q))) ∧ (¬ (8 ≤ x6) → LX10_feed_76 G x0 x1 x2 x3 x4 x5 x6 x2 S I R Q))) ∧ (¬ (4 ≤ x6) → LX10_feed_76 G x0 x1 x2 x3 x4 x5 x6 x1 S I R Q))))) : LX10_feed_23 G x0 x1 x2 x3 x4 x5 x6 S I R Q := by
  show E G MX10_feed 23 [(0, vR x0), (1, vI x1), (2, vI x2), (3, vI x3), (4, vI x4), (5, vI x5), (6, vI x6)] [] S I R (qI Q)
  refine e_iload 6 dX10_feed_23 rfl ?_
  refine e_bipush (x := 20) dX10_feed_25 ⟨by decide +kernel, by unfold InR; decide⟩ ?_
  refine e_icmp_ge (tgt := 117) dX10_feed_27 (by decide) (fun c => ?_) (fun c => ?_)
  · replace h := h.1 c
    refine e_aload_n 0 dX10_feed_117 rfl ?_
    have o2 := h.1
    replace h := h.2
    refine e_getI dX10_feed_118 flX10_137 rfl o2 ?_
    exact e_ireturn dX10_feed_121 rfl ⟨_, rfl, h⟩
  · replace h := h.2 c
    refine e_iload 6 dX10_feed_30 rfl ?_
    refine e_iconst dX10_feed_32 (by unfold InR; decide) ?_
    refine e_icmp_ge (tgt := 40) dX10_feed_33 (by decide) (fun c => ?_) (fun c => ?_)
    · replace h := h.1 c
      refine e_iload 6 dX10_feed_40 rfl ?_
      refine e_bipush (x := 8) dX10_feed_42 ⟨by decide +kernel, by unfold InR; decide⟩ ?_
      refine e_icmp_ge (tgt := 51) dX10_feed_44 (by decide) (fun c => ?_) (fun c => ?_)
      · replace h := h.1 c
        refine e_iload 6 dX10_feed_51 rfl ?_
        refine e_bipush (x := 12) dX10_feed_53 ⟨by decide +kernel, by unfold InR; decide⟩ ?_
        refine e_icmp_ge (tgt := 62) dX10_feed_55 (by decide) (fun c => ?_) (fun c => ?_)
        · replace h := h.1 c
          refine e_iload 6 dX10_feed_62 rfl ?_
          refine e_bipush (x := 16) dX10_feed_64 ⟨by decide +kernel, by unfold InR; decide⟩ ?_
          refine e_icmp_ge (tgt := 74) dX10_feed_66 (by decide) (fun c => ?_) (fun c => ?_)
          · replace h := h.1 c
            refine e_iload 5 dX10_feed_74 rfl ?_
            exact e_sub (ls2 := [(0, vR x0), (1, vI x1), (2, vI x2), (3, vI x3), (4, vI x4), (5, vI x5), (6, vI x6)]) [0, 1, 2, 3, 4, 5, 6] rfl h
          · replace h := h.2 c
            refine e_iload 4 dX10_feed_69 rfl ?_
            refine e_goto (tgt := 76) dX10_feed_71 (by decide) ?_
            exact e_sub (ls2 := [(0, vR x0), (1, vI x1), (2, vI x2), (3, vI x3), (4, vI x4), (5, vI x5), (6, vI x6)]) [0, 1, 2, 3, 4, 5, 6] rfl h
        · replace h := h.2 c
          refine e_iload_n 3 dX10_feed_58 rfl ?_
          refine e_goto (tgt := 76) dX10_feed_59 (by decide) ?_
          exact e_sub (ls2 := [(0, vR x0), (1, vI x1), (2, vI x2), (3, vI x3), (4, vI x4), (5, vI x5), (6, vI x6)]) [0, 1, 2, 3, 4, 5, 6] rfl h
      · replace h := h.2 c
        refine e_iload_n 2 dX10_feed_47 rfl ?_
        refine e_goto (tgt := 76) dX10_feed_48 (by decide) ?_
        exact e_sub (ls2 := [(0, vR x0), (1, vI x1), (2, vI x2), (3, vI x3), (4, vI x4), (5, vI x5), (6, vI x6)]) [0, 1, 2, 3, 4, 5, 6] rfl h
    · replace h := h.2 c
      refine e_iload_n 1 dX10_feed_36 rfl ?_
      refine e_goto (tgt := 76) dX10_feed_37 (by decide) ?_
      exact e_sub (ls2 := [(0, vR x0), (1, vI x1), (2, vI x2), (3, vI x3), (4, vI x4), (5, vI x5), (6, vI x6)]) [0, 1, 2, 3, 4, 5, 6] rfl h
set_option maxRecDepth 100000 in
set_option maxHeartbeats 4000000 in
theorem bX10_feed_76 {G : Gl} {S : Sh} {I : MI} {R : MR} {Q : Sh → MI → MR → Int → Prop} {x0 : Nat} {x1 : Int} {x2 : Int} {x3 : Int} {x4 : Int} {x5 : Int} {x6 : Int} {y0 : Int} (h : (sT S x0 = 10 ∧ (sT S (R x0 10) = 22 ∧ (((0 : Int) ≤ (I x0 11) ∧ (I x0 11) < (sL S (R x0 10) : Int)) ∧ ((-128 ≤ (i2b (ishr y0 (w32 (24 - (w32 (8 * (irem x6 4))))))) ∧ (i2b (ishr y0 (w32 (24 - (w32 (8 * (irem x6 4))))))) < 128) ∧ (∀ I100, I100 = up2 I (R x0 10) (Int.toNat (I x0 11)) (i2b (ishr y0 (w32 (24 - (w32 (8 * (irem x6 4))))))) → (∀ I108, I108 = up2 I100 x0 11 (w32 ((I100 x0 11) + 1)) → LX10_feed_23 G x0 x1 x2 x3 x4 x5 (w32 (x6 + 1)) S I108 R Q))))))) : LX10_feed_76 G x0 x1 x2 x3 x4 x5 x6 y0 S I R Q := by
  show E G MX10_feed 76 [(0, vR x0), (1, vI x1), (2, vI x2), (3, vI x3), (4, vI x4), (5, vI x5), (6, vI x6)] [vI y0] S I R (qI Q)
  refine e_istore (ls2 := [(7, vI y0), (0, vR x0), (1, vI x1), (2, vI x2), (3, vI x3), (4, vI x4), (5, vI x5), (6, vI x6)]) dX10_feed_76 (by decide) rfl ?_
  refine e_aload_n 1 dX10_feed_78 rfl ?_
  have o3 := h.1
  replace h := h.2
  refine e_getR dX10_feed_79 flX10_36 rfl o3 ?_
  refine e_aload_n 1 dX10_feed_82 rfl ?_
  refine e_getI dX10_feed_83 flX10_137 rfl o3 ?_
  refine e_iload 0 dX10_feed_86 rfl ?_
  refine e_bipush (x := 24) dX10_feed_88 ⟨by decide +kernel, by unfold InR; decide⟩ ?_
  refine e_bipush (x := 8) dX10_feed_90 ⟨by decide +kernel, by unfold InR; decide⟩ ?_
  refine e_iload 7 dX10_feed_92 rfl ?_
  refine e_iconst dX10_feed_94 (by unfold InR; decide) ?_
  refine e_irem dX10_feed_95 (by decide) ?_
  refine e_imul dX10_feed_96 ?_
  refine e_isub dX10_feed_97 ?_
  refine e_ishr dX10_feed_98 ?_
  refine e_i2b dX10_feed_99 ?_
  have o4 := h.1
  replace h := h.2
  have o5 := h.1
  replace h := h.2
  have o6 := h.1
  replace h := h.2
  obtain ⟨I100, eI100⟩ : ∃ z : MI, z = up2 I (R x0 10) (Int.toNat (I x0 11)) (i2b (ishr y0 (w32 (24 - (w32 (8 * (irem x6 4))))))) := ⟨_, rfl⟩
  replace h := h I100 eI100
  refine e_bast dX10_feed_100 o4 o5 o6 (eqI eI100 ?_)
  refine e_aload_n 1 dX10_feed_101 rfl ?_
  refine e_aload_n 1 dX10_feed_102 rfl ?_
  refine e_getI dX10_feed_103 flX10_137 rfl o3 ?_
  refine e_iconst dX10_feed_106 (by unfold InR; decide) ?_
  refine e_iadd dX10_feed_107 ?_
  obtain ⟨I108, eI108⟩ : ∃ z : MI, z = up2 I100 x0 11 (w32 ((I100 x0 11) + 1)) := ⟨_, rfl⟩
  replace h := h I108 eI108
  refine e_putI dX10_feed_108 flX10_137 rfl (Or.inl rfl) o3 (eqI eI108 ?_)
  refine e_iinc (ls2 := [(6, vI (w32 (x6 + 1))), (7, vI y0), (0, vR x0), (1, vI x1), (2, vI x2), (3, vI x3), (4, vI x4), (5, vI x5)]) 7 dX10_feed_111 rfl (by decide) rfl ?_
  refine e_goto (tgt := 23) dX10_feed_114 (by decide) ?_
  exact e_sub (ls2 := [(0, vR x0), (1, vI x1), (2, vI x2), (3, vI x3), (4, vI x4), (5, vI x5), (6, vI (w32 (x6 + 1)))]) [2, 3, 4, 5, 6, 7, 0] rfl h

set_option maxRecDepth 100000 in
set_option maxHeartbeats 4000000 in
theorem bX10_end {G : Gl} {S : Sh} {I : MI} {R : MR} {Q : Sh → MI → MR → Int → Prop} {x0 : Nat} {x1 : Int} (h : (sT S x0 = 10 ∧ (∀ I2, I2 = up2 I x0 0 0 → (((vX10_isIn x0 x1 0 (I2 x0 11)) ≠ 0 → (∀ I24, I24 = up2 I2 x0 11 x1 → Q S I24 R 1)) ∧ (¬ ((vX10_isIn x0 x1 0 (I2 x0 11)) ≠ 0) → Q S I2 R 0))))) : CI G MX10_end [vR x0, vI x1] S I R Q := by
  show E G MX10_end 0 [(0, vR x0), (1, vI x1)] [] S I R (qI Q)
  refine e_aload_n 0 dX10_end_0 rfl ?_
  refine e_iconst dX10_end_1 (by unfold InR; decide) ?_
  have o1 := h.1
  replace h := h.2
  obtain ⟨I2, eI2⟩ : ∃ z : MI, z = up2 I x0 0 0 := ⟨_, rfl⟩
  replace h := h I2 eI2
  refine e_putI dX10_end_2 flX10_65 rfl (Or.inl rfl) o1 (eqI eI2 ?_)
  refine e_aload_n 0 dX10_end_5 rfl ?_
  refine e_iload_n 1 dX10_end_6 rfl ?_
  refine e_i2l dX10_end_7 ?_
  refine e_lconst (x := 0) dX10_end_8 ⟨by decide +kernel, by unfold InL; decide⟩ ?_
  refine e_aload_n 0 dX10_end_9 rfl ?_
  refine e_getI dX10_end_10 flX10_137 rfl o1 ?_
  refine e_i2l dX10_end_13 ?_
  refine i_VI (μ' := MX10_isIn) (ci := 9) (r := x0) (as := [vL x1, vL 0, vL (I2 x0 11)]) (st := []) rfl dX10_end_14 mOKX10_isIn ⟨mlX10_106, imX10_isIn, seX10_isIn⟩ (by decide) (Nat.le_of_ble_eq_true rfl) rfl (Nat.le_of_ble_eq_true rfl) ⟨by decide, rfl⟩ o1 (sX10_isIn ?_)
  refine e_if_ne (tgt := 22) dX10_end_17 (by decide) (fun c => ?_) (fun c => ?_)
  · replace h := h.1 c
    refine e_aload_n 0 dX10_end_22 rfl ?_
    refine e_iload_n 1 dX10_end_23 rfl ?_
    obtain ⟨I24, eI24⟩ : ∃ z : MI, z = up2 I2 x0 11 x1 := ⟨_, rfl⟩
    replace h := h I24 eI24
    refine e_putI dX10_end_24 flX10_137 rfl (Or.inl rfl) o1 (eqI eI24 ?_)
    refine e_iconst dX10_end_27 (by unfold InR; decide) ?_
    exact e_zreturn dX10_end_28 rfl (by decide) ⟨_, rfl, h⟩
  · replace h := h.2 c
    refine e_iconst dX10_end_20 (by unfold InR; decide) ?_
    exact e_zreturn dX10_end_21 rfl (by decide) ⟨_, rfl, h⟩

set_option maxRecDepth 100000 in
set_option maxHeartbeats 4000000 in
theorem bX10_says {G : Gl} {S : Sh} {I : MI} {R : MR} {Q : Sh → MI → MR → Prop} {x0 : Nat} {x1 : Int} (h : (sT S x0 = 10 ∧ (sT S (R x0 18) = 21 ∧ (((0 : Int) ≤ (I x0 19) ∧ (I x0 19) < (sL S (R x0 18) : Int)) ∧ (∀ I9, I9 = up2 I (R x0 18) (Int.toNat (I x0 19)) x1 → (∀ I17, I17 = up2 I9 x0 19 (w32 ((I9 x0 19) + 1)) → Q S I17 R)))))) : CV G MX10_says [vR x0, vI x1] S I R Q := by
  show E G MX10_says 0 [(0, vR x0), (1, vI x1)] [] S I R (qV Q)
  refine e_aload_n 0 dX10_says_0 rfl ?_
  have o1 := h.1
  replace h := h.2
  refine e_getR dX10_says_1 flX10_46 rfl o1 ?_
  refine e_aload_n 0 dX10_says_4 rfl ?_
  refine e_getI dX10_says_5 flX10_201 rfl o1 ?_
  refine e_iload_n 1 dX10_says_8 rfl ?_
  have o2 := h.1
  replace h := h.2
  have o3 := h.1
  replace h := h.2
  obtain ⟨I9, eI9⟩ : ∃ z : MI, z = up2 I (R x0 18) (Int.toNat (I x0 19)) x1 := ⟨_, rfl⟩
  replace h := h I9 eI9
  refine e_iast dX10_says_9 o2 o3 (eqI eI9 ?_)
  refine e_aload_n 0 dX10_says_10 rfl ?_
  refine e_aload_n 0 dX10_says_11 rfl ?_
  refine e_getI dX10_says_12 flX10_201 rfl o1 ?_
  refine e_iconst dX10_says_15 (by unfold InR; decide) ?_
  refine e_iadd dX10_says_16 ?_
  obtain ⟨I17, eI17⟩ : ∃ z : MI, z = up2 I9 x0 19 (w32 ((I9 x0 19) + 1)) := ⟨_, rfl⟩
  replace h := h I17 eI17
  refine e_putI dX10_says_17 flX10_201 rfl (Or.inl rfl) o1 (eqI eI17 ?_)
  exact e_return dX10_says_20 rfl ⟨rfl, h⟩

set_option maxRecDepth 100000 in
set_option maxHeartbeats 4000000 in
theorem bX10_saysNumber {G : Gl} {k : Nat} {S : Sh} {I : MI} {R : MR} {Q : Sh → MI → MR → Prop} {x0 : Nat} {x1 : Int} (h : ((x1 ≤ 9 → (sT S x0 = 10 ∧ (CV G MX10_says [vR x0, vI (w32 (48 + (irem x1 10)))] S I R (fun S22 I22 R22 => Q S22 I22 R22)))) ∧ (¬ (x1 ≤ 9) → (sT S x0 = 10 ∧ (CV G (MX10_saysNumber k) [vR x0, vI (idiv x1 10)] S I R (fun S11 I11 R11 => (sT S11 x0 = 10 ∧ (CV G MX10_says [vR x0, vI (w32 (48 + (irem x1 10)))] S11 I11 R11 (fun S22 I22 R22 => Q S22 I22 R22))))))))) : CV G (MX10_saysNumber (k + 1)) [vR x0, vI x1] S I R Q := by
  show E G (MX10_saysNumber (k + 1)) 0 [(0, vR x0), (1, vI x1)] [] S I R (qV Q)
  refine e_iload_n 1 dX10_saysNumber_0 rfl ?_
  refine e_bipush (x := 9) dX10_saysNumber_1 ⟨by decide +kernel, by unfold InR; decide⟩ ?_
  refine e_icmp_le (tgt := 14) dX10_saysNumber_3 (by decide) (fun c => ?_) (fun c => ?_)
  · replace h := h.1 c
    refine e_aload_n 0 dX10_saysNumber_14 rfl ?_
    refine e_bipush (x := 48) dX10_saysNumber_15 ⟨by decide +kernel, by unfold InR; decide⟩ ?_
    refine e_iload_n 1 dX10_saysNumber_17 rfl ?_
    refine e_bipush (x := 10) dX10_saysNumber_18 ⟨by decide +kernel, by unfold InR; decide⟩ ?_
    refine e_irem dX10_saysNumber_20 (by decide) ?_
    refine e_iadd dX10_saysNumber_21 ?_
    have o1 := h.1
    replace h := h.2
    refine i_VV (μ' := MX10_says) (ci := 9) (r := x0) (as := [vI (w32 (48 + (irem x1 10)))]) (st := []) rfl dX10_saysNumber_22 mOKX10_says ⟨mlX10_207, imX10_says, seX10_says⟩ (Nat.lt_of_lt_of_le (by decide : mK MX10_says < 2) (Nat.le_add_right _ _)) (Nat.le_of_ble_eq_true rfl) rfl (Nat.le_of_ble_eq_true rfl) ⟨by decide, rfl⟩ o1 (CV.mono h ?_)
    clear h
    intro S22 I22 R22 h
    exact e_return dX10_saysNumber_25 rfl ⟨rfl, h⟩
  · replace h := h.2 c
    refine e_aload_n 0 dX10_saysNumber_6 rfl ?_
    refine e_iload_n 1 dX10_saysNumber_7 rfl ?_
    refine e_bipush (x := 10) dX10_saysNumber_8 ⟨by decide +kernel, by unfold InR; decide⟩ ?_
    refine e_idiv dX10_saysNumber_10 (by decide) ?_
    have o2 := h.1
    replace h := h.2
    refine i_VV (μ' := (MX10_saysNumber k)) (ci := 9) (r := x0) (as := [vI (idiv x1 10)]) (st := []) rfl dX10_saysNumber_11 (mOKX10_saysNumber k) ⟨mlX10_204, imX10_saysNumber, seX10_saysNumber⟩ (Nat.add_lt_add_left (Nat.lt_succ_self k) _) (Nat.le_of_ble_eq_true rfl) rfl (Nat.le_of_ble_eq_true rfl) ⟨by decide, rfl⟩ o2 (CV.mono h ?_)
    clear h
    intro S11 I11 R11 h
    refine e_aload_n 0 dX10_saysNumber_14 rfl ?_
    refine e_bipush (x := 48) dX10_saysNumber_15 ⟨by decide +kernel, by unfold InR; decide⟩ ?_
    refine e_iload_n 1 dX10_saysNumber_17 rfl ?_
    refine e_bipush (x := 10) dX10_saysNumber_18 ⟨by decide +kernel, by unfold InR; decide⟩ ?_
    refine e_irem dX10_saysNumber_20 (by decide) ?_
    refine e_iadd dX10_saysNumber_21 ?_
    have o3 := h.1
    replace h := h.2
    refine i_VV (μ' := MX10_says) (ci := 9) (r := x0) (as := [vI (w32 (48 + (irem x1 10)))]) (st := []) rfl dX10_saysNumber_22 mOKX10_says ⟨mlX10_207, imX10_says, seX10_says⟩ (Nat.lt_of_lt_of_le (by decide : mK MX10_says < 2) (Nat.le_add_right _ _)) (Nat.le_of_ble_eq_true rfl) rfl (Nat.le_of_ble_eq_true rfl) ⟨by decide, rfl⟩ o3 (CV.mono h ?_)
    clear h
    intro S22 I22 R22 h
    exact e_return dX10_saysNumber_25 rfl ⟨rfl, h⟩

def LX10_saysTerm_14 (G : Gl) (x0 : Nat) (x1 : Int) (x2 : Int) (y0 : Int) (S : Sh) (I : MI) (R : MR) (Q : Sh → MI → MR → Prop) : Prop := E G MX10_saysTerm 14 [(0, vR x0), (1, vI x1), (2, vI x2)] [vI y0] S I R (qV Q)
def LX10_saysTerm_34 (G : Gl) (x0 : Nat) (x1 : Int) (x2 : Int) (S : Sh) (I : MI) (R : MR) (Q : Sh → MI → MR → Prop) : Prop := E G MX10_saysTerm 34 [(0, vR x0), (1, vI x1), (2, vI x2)] [] S I R (qV Q)
def LX10_saysTerm_52 (G : Gl) (x0 : Nat) (x1 : Int) (x2 : Int) (x4 : Int) (S : Sh) (I : MI) (R : MR) (Q : Sh → MI → MR → Prop) : Prop := E G MX10_saysTerm 52 [(0, vR x0), (1, vI x1), (2, vI x2), (4, vI x4)] [] S I R (qV Q)
set_option maxRecDepth 100000 in
set_option maxHeartbeats 4000000 in
theorem bX10_saysTerm {G : Gl} {S : Sh} {I : MI} {R : MR} {Q : Sh → MI → MR → Prop} {x0 : Nat} {x1 : Int} {x2 : Int} (h : (sT S x0 = 10 ∧ ((pX10_degree S I R x0 x1 x2) ∧ (((vX10_degree I R x0 x1 x2) ≠ 0 → LX10_saysTerm_14 G x0 x1 x2 0 S I R Q) ∧ (¬ ((vX10_degree I R x0 x1 x2) ≠ 0) → LX10_saysTerm_14 G x0 x1 x2 1 S I R Q))))) : CV G MX10_saysTerm [vR x0, vI x1, vI x2] S I R Q := by
  show E G MX10_saysTerm 0 [(0, vR x0), (1, vI x1), (2, vI x2)] [] S I R (qV Q)
  refine e_aload_n 0 dX10_saysTerm_0 rfl ?_
  refine e_iload_n 1 dX10_saysTerm_1 rfl ?_
  refine e_iload_n 2 dX10_saysTerm_2 rfl ?_
  have o1 := h.1
  replace h := h.2
  have o2 := h.1
  replace h := h.2
  refine i_VI (μ' := MX10_degree) (ci := 9) (r := x0) (as := [vI x1, vI x2]) (st := []) rfl dX10_saysTerm_3 mOKX10_degree ⟨mlX10_79, imX10_degree, seX10_degree⟩ (by decide) (Nat.le_of_ble_eq_true rfl) rfl (Nat.le_of_ble_eq_true rfl) ⟨by decide, rfl⟩ o1 (sX10_degree o2 ?_)
  refine e_if_ne (tgt := 13) dX10_saysTerm_6 (by decide) (fun c => ?_) (fun c => ?_)
  · replace h := h.1 c
    refine e_iconst dX10_saysTerm_13 (by unfold InR; decide) ?_
    exact e_sub (ls2 := [(0, vR x0), (1, vI x1), (2, vI x2)]) [0, 1, 2] rfl h
  · replace h := h.2 c
    refine e_iconst dX10_saysTerm_9 (by unfold InR; decide) ?_
    refine e_goto (tgt := 14) dX10_saysTerm_10 (by decide) ?_
    exact e_sub (ls2 := [(0, vR x0), (1, vI x1), (2, vI x2)]) [0, 1, 2] rfl h
set_option maxRecDepth 100000 in
set_option maxHeartbeats 4000000 in
theorem bX10_saysTerm_14 {G : Gl} {S : Sh} {I : MI} {R : MR} {Q : Sh → MI → MR → Prop} {x0 : Nat} {x1 : Int} {x2 : Int} {y0 : Int} (h : (sT S x0 = 10 ∧ (sT S (R x0 5) = 21 ∧ (((0 : Int) ≤ (vX10_at x0 x1 x2) ∧ (vX10_at x0 x1 x2) < (sL S (R x0 5) : Int)) ∧ (((I (R x0 5) (Int.toNat (vX10_at x0 x1 x2))) ≠ 1 → LX10_saysTerm_34 G x0 x1 x2 S I R Q) ∧ (¬ ((I (R x0 5) (Int.toNat (vX10_at x0 x1 x2))) ≠ 1) → ((y0 = 0 → LX10_saysTerm_52 G x0 x1 x2 0 S I R Q) ∧ (¬ (y0 = 0) → LX10_saysTerm_34 G x0 x1 x2 S I R Q)))))))) : LX10_saysTerm_14 G x0 x1 x2 y0 S I R Q := by
  show E G MX10_saysTerm 14 [(0, vR x0), (1, vI x1), (2, vI x2)] [vI y0] S I R (qV Q)
  refine e_istore_n (ls2 := [(3, vI y0), (0, vR x0), (1, vI x1), (2, vI x2)]) dX10_saysTerm_14 (by decide) rfl ?_
  refine e_aload_n 1 dX10_saysTerm_15 rfl ?_
  have o3 := h.1
  replace h := h.2
  refine e_getR dX10_saysTerm_16 flX10_23 rfl o3 ?_
  refine e_aload_n 1 dX10_saysTerm_19 rfl ?_
  refine e_iload_n 2 dX10_saysTerm_20 rfl ?_
  refine e_iload_n 3 dX10_saysTerm_21 rfl ?_
  refine i_VI (μ' := MX10_at) (ci := 9) (r := x0) (as := [vI x1, vI x2]) (st := [vR (R x0 5)]) rfl dX10_saysTerm_22 mOKX10_at ⟨mlX10_68, imX10_at, seX10_at⟩ (by decide) (Nat.le_of_ble_eq_true rfl) rfl (Nat.le_of_ble_eq_true rfl) ⟨by decide, rfl⟩ o3 (sX10_at ?_)
  have o4 := h.1
  replace h := h.2
  have o5 := h.1
  replace h := h.2
  refine e_iald dX10_saysTerm_25 o4 o5 ?_
  refine e_iconst dX10_saysTerm_26 (by unfold InR; decide) ?_
  refine e_icmp_ne (tgt := 34) dX10_saysTerm_27 (by decide) (fun c => ?_) (fun c => ?_)
  · replace h := h.1 c
    exact e_sub (ls2 := [(0, vR x0), (1, vI x1), (2, vI x2)]) [1, 2, 3] rfl h
  · replace h := h.2 c
    refine e_iload_n 0 dX10_saysTerm_30 rfl ?_
    refine e_if_eq (tgt := 49) dX10_saysTerm_31 (by decide) (fun c => ?_) (fun c => ?_)
    · replace h := h.1 c
      refine e_iconst dX10_saysTerm_49 (by unfold InR; decide) ?_
      refine e_istore (ls2 := [(4, vI 0), (3, vI y0), (0, vR x0), (1, vI x1), (2, vI x2)]) dX10_saysTerm_50 (by decide) rfl ?_
      exact e_sub (ls2 := [(0, vR x0), (1, vI x1), (2, vI x2), (4, vI 0)]) [2, 3, 4, 0] rfl h
    · replace h := h.2 c
      exact e_sub (ls2 := [(0, vR x0), (1, vI x1), (2, vI x2)]) [1, 2, 3] rfl h
set_option maxRecDepth 100000 in
set_option maxHeartbeats 4000000 in
theorem bX10_saysTerm_34 {G : Gl} {S : Sh} {I : MI} {R : MR} {Q : Sh → MI → MR → Prop} {x0 : Nat} {x1 : Int} {x2 : Int} (h : (sT S x0 = 10 ∧ (sT S (R x0 5) = 21 ∧ (((0 : Int) ≤ (vX10_at x0 x1 x2) ∧ (vX10_at x0 x1 x2) < (sL S (R x0 5) : Int)) ∧ (CV G (MX10_saysNumber 6) [vR x0, vI (I (R x0 5) (Int.toNat (vX10_at x0 x1 x2)))] S I R (fun S46 I46 R46 => LX10_saysTerm_52 G x0 x1 x2 0 S46 I46 R46 Q)))))) : LX10_saysTerm_34 G x0 x1 x2 S I R Q := by
  show E G MX10_saysTerm 34 [(0, vR x0), (1, vI x1), (2, vI x2)] [] S I R (qV Q)
  refine e_aload_n 0 dX10_saysTerm_34 rfl ?_
  refine e_aload_n 0 dX10_saysTerm_35 rfl ?_
  have o6 := h.1
  replace h := h.2
  refine e_getR dX10_saysTerm_36 flX10_23 rfl o6 ?_
  refine e_aload_n 0 dX10_saysTerm_39 rfl ?_
  refine e_iload_n 1 dX10_saysTerm_40 rfl ?_
  refine e_iload_n 2 dX10_saysTerm_41 rfl ?_
  refine i_VI (μ' := MX10_at) (ci := 9) (r := x0) (as := [vI x1, vI x2]) (st := [vR (R x0 5), vR x0]) rfl dX10_saysTerm_42 mOKX10_at ⟨mlX10_68, imX10_at, seX10_at⟩ (by decide) (Nat.le_of_ble_eq_true rfl) rfl (Nat.le_of_ble_eq_true rfl) ⟨by decide, rfl⟩ o6 (sX10_at ?_)
  have o7 := h.1
  replace h := h.2
  have o8 := h.1
  replace h := h.2
  refine e_iald dX10_saysTerm_45 o7 o8 ?_
  refine i_VV (μ' := (MX10_saysNumber 6)) (ci := 9) (r := x0) (as := [vI (I (R x0 5) (Int.toNat (vX10_at x0 x1 x2)))]) (st := []) rfl dX10_saysTerm_46 (mOKX10_saysNumber 6) ⟨mlX10_204, imX10_saysNumber, seX10_saysNumber⟩ (by decide) (Nat.le_of_ble_eq_true rfl) rfl (Nat.le_of_ble_eq_true rfl) ⟨by decide, rfl⟩ o6 (CV.mono h ?_)
  clear h
  intro S46 I46 R46 h
  refine e_iconst dX10_saysTerm_49 (by unfold InR; decide) ?_
  refine e_istore (ls2 := [(4, vI 0), (0, vR x0), (1, vI x1), (2, vI x2)]) dX10_saysTerm_50 (by decide) rfl ?_
  exact e_sub (ls2 := [(0, vR x0), (1, vI x1), (2, vI x2), (4, vI 0)]) [1, 2, 3, 0] rfl h
set_option maxRecDepth 100000 in
set_option maxHeartbeats 4000000 in
theorem bX10_saysTerm_52 {G : Gl} {S : Sh} {I : MI} {R : MR} {Q : Sh → MI → MR → Prop} {x0 : Nat} {x1 : Int} {x2 : Int} {x4 : Int} (h : ((3 ≤ x4 → Q S I R) ∧ (¬ (3 ≤ x4) → (sT S x0 = 10 ∧ ((pX10_power S R x0 x1 x2 x4) ∧ (((vX10_power I R x0 x1 x2 x4) ≠ 0 → (CV G MX10_says [vR x0, vI (w32 (120 + x4))] S I R (fun S78 I78 R78 => (sT S78 x0 = 10 ∧ ((pX10_power S78 R78 x0 x1 x2 x4) ∧ (((vX10_power I78 R78 x0 x1 x2 x4) ≠ 1 → (CV G MX10_says [vR x0, vI 94] S78 I78 R78 (fun S99 I99 R99 => (sT S99 x0 = 10 ∧ ((pX10_power S99 R99 x0 x1 x2 x4) ∧ (CV G (MX10_saysNumber 6) [vR x0, vI (vX10_power I99 R99 x0 x1 x2 x4)] S99 I99 R99 (fun S111 I111 R111 => LX10_saysTerm_52 G x0 x1 x2 (w32 (x4 + 1)) S111 I111 R111 Q))))))) ∧ (¬ ((vX10_power I78 R78 x0 x1 x2 x4) ≠ 1) → LX10_saysTerm_52 G x0 x1 x2 (w32 (x4 + 1)) S78 I78 R78 Q))))))) ∧ (¬ ((vX10_power I R x0 x1 x2 x4) ≠ 0) → LX10_saysTerm_52 G x0 x1 x2 (w32 (x4 + 1)) S I R Q))))))) : LX10_saysTerm_52 G x0 x1 x2 x4 S I R Q := by
  show E G MX10_saysTerm 52 [(0, vR x0), (1, vI x1), (2, vI x2), (4, vI x4)] [] S I R (qV Q)
  refine e_iload 3 dX10_saysTerm_52 rfl ?_
  refine e_iconst dX10_saysTerm_54 (by unfold InR; decide) ?_
  refine e_icmp_ge (tgt := 120) dX10_saysTerm_55 (by decide) (fun c => ?_) (fun c => ?_)
  · replace h := h.1 c
    exact e_return dX10_saysTerm_120 rfl ⟨rfl, h⟩
  · replace h := h.2 c
    refine e_aload_n 0 dX10_saysTerm_58 rfl ?_
    refine e_iload_n 1 dX10_saysTerm_59 rfl ?_
    refine e_iload_n 2 dX10_saysTerm_60 rfl ?_
    refine e_iload 3 dX10_saysTerm_61 rfl ?_
    have o9 := h.1
    replace h := h.2
    have o10 := h.1
    replace h := h.2
    refine i_VI (μ' := MX10_power) (ci := 9) (r := x0) (as := [vI x1, vI x2, vI x4]) (st := []) rfl dX10_saysTerm_63 mOKX10_power ⟨mlX10_72, imX10_power, seX10_power⟩ (by decide) (Nat.le_of_ble_eq_true rfl) rfl (Nat.le_of_ble_eq_true rfl) ⟨by decide, rfl⟩ o9 (sX10_power o10 ?_)
    refine e_if_ne (tgt := 72) dX10_saysTerm_66 (by decide) (fun c => ?_) (fun c => ?_)
    · replace h := h.1 c
      refine e_aload_n 0 dX10_saysTerm_72 rfl ?_
      refine e_bipush (x := 120) dX10_saysTerm_73 ⟨by decide +kernel, by unfold InR; decide⟩ ?_
      refine e_iload 3 dX10_saysTerm_75 rfl ?_
      refine e_iadd dX10_saysTerm_77 ?_
      refine i_VV (μ' := MX10_says) (ci := 9) (r := x0) (as := [vI (w32 (120 + x4))]) (st := []) rfl dX10_saysTerm_78 mOKX10_says ⟨mlX10_207, imX10_says, seX10_says⟩ (by decide) (Nat.le_of_ble_eq_true rfl) rfl (Nat.le_of_ble_eq_true rfl) ⟨by decide, rfl⟩ o9 (CV.mono h ?_)
      clear h
      intro S78 I78 R78 h
      refine e_aload_n 0 dX10_saysTerm_81 rfl ?_
      refine e_iload_n 1 dX10_saysTerm_82 rfl ?_
      refine e_iload_n 2 dX10_saysTerm_83 rfl ?_
      refine e_iload 3 dX10_saysTerm_84 rfl ?_
      have o11 := h.1
      replace h := h.2
      have o12 := h.1
      replace h := h.2
      refine i_VI (μ' := MX10_power) (ci := 9) (r := x0) (as := [vI x1, vI x2, vI x4]) (st := []) rfl dX10_saysTerm_86 mOKX10_power ⟨mlX10_72, imX10_power, seX10_power⟩ (by decide) (Nat.le_of_ble_eq_true rfl) rfl (Nat.le_of_ble_eq_true rfl) ⟨by decide, rfl⟩ o11 (sX10_power o12 ?_)
      refine e_iconst dX10_saysTerm_89 (by unfold InR; decide) ?_
      refine e_icmp_ne (tgt := 96) dX10_saysTerm_90 (by decide) (fun c => ?_) (fun c => ?_)
      · replace h := h.1 c
        refine e_aload_n 0 dX10_saysTerm_96 rfl ?_
        refine e_bipush (x := 94) dX10_saysTerm_97 ⟨by decide +kernel, by unfold InR; decide⟩ ?_
        refine i_VV (μ' := MX10_says) (ci := 9) (r := x0) (as := [vI 94]) (st := []) rfl dX10_saysTerm_99 mOKX10_says ⟨mlX10_207, imX10_says, seX10_says⟩ (by decide) (Nat.le_of_ble_eq_true rfl) rfl (Nat.le_of_ble_eq_true rfl) ⟨by decide, rfl⟩ o11 (CV.mono h ?_)
        clear h
        intro S99 I99 R99 h
        refine e_aload_n 0 dX10_saysTerm_102 rfl ?_
        refine e_aload_n 0 dX10_saysTerm_103 rfl ?_
        refine e_iload_n 1 dX10_saysTerm_104 rfl ?_
        refine e_iload_n 2 dX10_saysTerm_105 rfl ?_
        refine e_iload 3 dX10_saysTerm_106 rfl ?_
        have o13 := h.1
        replace h := h.2
        have o14 := h.1
        replace h := h.2
        refine i_VI (μ' := MX10_power) (ci := 9) (r := x0) (as := [vI x1, vI x2, vI x4]) (st := [vR x0]) rfl dX10_saysTerm_108 mOKX10_power ⟨mlX10_72, imX10_power, seX10_power⟩ (by decide) (Nat.le_of_ble_eq_true rfl) rfl (Nat.le_of_ble_eq_true rfl) ⟨by decide, rfl⟩ o13 (sX10_power o14 ?_)
        refine i_VV (μ' := (MX10_saysNumber 6)) (ci := 9) (r := x0) (as := [vI (vX10_power I99 R99 x0 x1 x2 x4)]) (st := []) rfl dX10_saysTerm_111 (mOKX10_saysNumber 6) ⟨mlX10_204, imX10_saysNumber, seX10_saysNumber⟩ (by decide) (Nat.le_of_ble_eq_true rfl) rfl (Nat.le_of_ble_eq_true rfl) ⟨by decide, rfl⟩ o13 (CV.mono h ?_)
        clear h
        intro S111 I111 R111 h
        refine e_iinc (ls2 := [(4, vI (w32 (x4 + 1))), (0, vR x0), (1, vI x1), (2, vI x2)]) 3 dX10_saysTerm_114 rfl (by decide) rfl ?_
        refine e_goto (tgt := 52) dX10_saysTerm_117 (by decide) ?_
        exact e_sub (ls2 := [(0, vR x0), (1, vI x1), (2, vI x2), (4, vI (w32 (x4 + 1)))]) [1, 2, 3, 0] rfl h
      · replace h := h.2 c
        refine e_goto (tgt := 114) dX10_saysTerm_93 (by decide) ?_
        refine e_iinc (ls2 := [(4, vI (w32 (x4 + 1))), (0, vR x0), (1, vI x1), (2, vI x2)]) 3 dX10_saysTerm_114 rfl (by decide) rfl ?_
        refine e_goto (tgt := 52) dX10_saysTerm_117 (by decide) ?_
        exact e_sub (ls2 := [(0, vR x0), (1, vI x1), (2, vI x2), (4, vI (w32 (x4 + 1)))]) [1, 2, 3, 0] rfl h
    · replace h := h.2 c
      refine e_goto (tgt := 114) dX10_saysTerm_69 (by decide) ?_
      refine e_iinc (ls2 := [(4, vI (w32 (x4 + 1))), (0, vR x0), (1, vI x1), (2, vI x2)]) 3 dX10_saysTerm_114 rfl (by decide) rfl ?_
      refine e_goto (tgt := 52) dX10_saysTerm_117 (by decide) ?_
      exact e_sub (ls2 := [(0, vR x0), (1, vI x1), (2, vI x2), (4, vI (w32 (x4 + 1)))]) [1, 2, 3, 0] rfl h

def LX10_show_37 (G : Gl) (x0 : Nat) (x1 : Int) (x2 : Int) (S : Sh) (I : MI) (R : MR) (Q : Sh → MI → MR → Int → Prop) : Prop := E G MX10_show 37 [(0, vR x0), (1, vI x1), (2, vI x2)] [] S I R (qI Q)
set_option maxRecDepth 100000 in
set_option maxHeartbeats 4000000 in
theorem bX10_show {G : Gl} {S : Sh} {I : MI} {R : MR} {Q : Sh → MI → MR → Int → Prop} {x0 : Nat} {x1 : Int} (h : (sT S x0 = 10 ∧ (∀ I2, I2 = up2 I x0 0 0 → ((pX10_isSlot S x0 x1) ∧ (((vX10_isSlot x0 x1) ≠ 0 → (∀ I17, I17 = up2 I2 x0 19 0 → (sT S (R x0 4) = 21 ∧ (((0 : Int) ≤ x1 ∧ x1 < (sL S (R x0 4) : Int)) ∧ (((I17 (R x0 4) (Int.toNat x1)) ≠ 0 → LX10_show_37 G x0 x1 0 S I17 R Q) ∧ (¬ ((I17 (R x0 4) (Int.toNat x1)) ≠ 0) → (CV G MX10_says [vR x0, vI 48] S I17 R (fun S32 I32 R32 => LX10_show_37 G x0 x1 0 S32 I32 R32 Q)))))))) ∧ (¬ ((vX10_isSlot x0 x1) ≠ 0) → Q S I2 R (-1))))))) : CI G MX10_show [vR x0, vI x1] S I R Q := by
  show E G MX10_show 0 [(0, vR x0), (1, vI x1)] [] S I R (qI Q)
  refine e_aload_n 0 dX10_show_0 rfl ?_
  refine e_iconst dX10_show_1 (by unfold InR; decide) ?_
  have o1 := h.1
  replace h := h.2
  obtain ⟨I2, eI2⟩ : ∃ z : MI, z = up2 I x0 0 0 := ⟨_, rfl⟩
  replace h := h I2 eI2
  refine e_putI dX10_show_2 flX10_65 rfl (Or.inl rfl) o1 (eqI eI2 ?_)
  refine e_aload_n 0 dX10_show_5 rfl ?_
  refine e_iload_n 1 dX10_show_6 rfl ?_
  have o2 := h.1
  replace h := h.2
  refine i_VI (μ' := MX10_isSlot) (ci := 9) (r := x0) (as := [vI x1]) (st := []) rfl dX10_show_7 mOKX10_isSlot ⟨mlX10_188, imX10_isSlot, seX10_isSlot⟩ (by decide) (Nat.le_of_ble_eq_true rfl) rfl (Nat.le_of_ble_eq_true rfl) ⟨by decide, rfl⟩ o1 (sX10_isSlot o2 ?_)
  refine e_if_ne (tgt := 15) dX10_show_10 (by decide) (fun c => ?_) (fun c => ?_)
  · replace h := h.1 c
    refine e_aload_n 0 dX10_show_15 rfl ?_
    refine e_iconst dX10_show_16 (by unfold InR; decide) ?_
    obtain ⟨I17, eI17⟩ : ∃ z : MI, z = up2 I2 x0 19 0 := ⟨_, rfl⟩
    replace h := h I17 eI17
    refine e_putI dX10_show_17 flX10_201 rfl (Or.inl rfl) o1 (eqI eI17 ?_)
    refine e_aload_n 0 dX10_show_20 rfl ?_
    refine e_getR dX10_show_21 flX10_20 rfl o1 ?_
    refine e_iload_n 1 dX10_show_24 rfl ?_
    have o3 := h.1
    replace h := h.2
    have o4 := h.1
    replace h := h.2
    refine e_iald dX10_show_25 o3 o4 ?_
    refine e_if_ne (tgt := 35) dX10_show_26 (by decide) (fun c => ?_) (fun c => ?_)
    · replace h := h.1 c
      refine e_iconst dX10_show_35 (by unfold InR; decide) ?_
      refine e_istore_n (ls2 := [(2, vI 0), (0, vR x0), (1, vI x1)]) dX10_show_36 (by decide) rfl ?_
      exact e_sub (ls2 := [(0, vR x0), (1, vI x1), (2, vI 0)]) [1, 2, 0] rfl h
    · replace h := h.2 c
      refine e_aload_n 0 dX10_show_29 rfl ?_
      refine e_bipush (x := 48) dX10_show_30 ⟨by decide +kernel, by unfold InR; decide⟩ ?_
      refine i_VV (μ' := MX10_says) (ci := 9) (r := x0) (as := [vI 48]) (st := []) rfl dX10_show_32 mOKX10_says ⟨mlX10_207, imX10_says, seX10_says⟩ (by decide) (Nat.le_of_ble_eq_true rfl) rfl (Nat.le_of_ble_eq_true rfl) ⟨by decide, rfl⟩ o1 (CV.mono h ?_)
      clear h
      intro S32 I32 R32 h
      refine e_iconst dX10_show_35 (by unfold InR; decide) ?_
      refine e_istore_n (ls2 := [(2, vI 0), (0, vR x0), (1, vI x1)]) dX10_show_36 (by decide) rfl ?_
      exact e_sub (ls2 := [(0, vR x0), (1, vI x1), (2, vI 0)]) [1, 2, 0] rfl h
  · replace h := h.2 c
    refine e_iconst dX10_show_13 (by unfold InR; decide) ?_
    exact e_ireturn dX10_show_14 rfl ⟨_, rfl, h⟩
set_option maxRecDepth 100000 in
set_option maxHeartbeats 4000000 in
theorem bX10_show_37 {G : Gl} {S : Sh} {I : MI} {R : MR} {Q : Sh → MI → MR → Int → Prop} {x0 : Nat} {x1 : Int} {x2 : Int} (h : (sT S x0 = 10 ∧ (sT S (R x0 4) = 21 ∧ (((0 : Int) ≤ x1 ∧ x1 < (sL S (R x0 4) : Int)) ∧ (((I (R x0 4) (Int.toNat x1)) ≤ x2 → Q S I R (I x0 19)) ∧ (¬ ((I (R x0 4) (Int.toNat x1)) ≤ x2) → ((x2 ≤ 0 → (CV G MX10_saysTerm [vR x0, vI x1, vI x2] S I R (fun S60 I60 R60 => LX10_show_37 G x0 x1 (w32 (x2 + 1)) S60 I60 R60 Q))) ∧ (¬ (x2 ≤ 0) → (CV G MX10_says [vR x0, vI 43] S I R (fun S54 I54 R54 => (sT S54 x0 = 10 ∧ (CV G MX10_saysTerm [vR x0, vI x1, vI x2] S54 I54 R54 (fun S60 I60 R60 => LX10_show_37 G x0 x1 (w32 (x2 + 1)) S60 I60 R60 Q))))))))))))) : LX10_show_37 G x0 x1 x2 S I R Q := by
  show E G MX10_show 37 [(0, vR x0), (1, vI x1), (2, vI x2)] [] S I R (qI Q)
  refine e_iload_n 2 dX10_show_37 rfl ?_
  refine e_aload_n 0 dX10_show_38 rfl ?_
  have o5 := h.1
  replace h := h.2
  refine e_getR dX10_show_39 flX10_20 rfl o5 ?_
  refine e_iload_n 1 dX10_show_42 rfl ?_
  have o6 := h.1
  replace h := h.2
  have o7 := h.1
  replace h := h.2
  refine e_iald dX10_show_43 o6 o7 ?_
  refine e_icmp_ge (tgt := 69) dX10_show_44 (by decide) (fun c => ?_) (fun c => ?_)
  · replace h := h.1 c
    refine e_aload_n 0 dX10_show_69 rfl ?_
    refine e_getI dX10_show_70 flX10_201 rfl o5 ?_
    exact e_ireturn dX10_show_73 rfl ⟨_, rfl, h⟩
  · replace h := h.2 c
    refine e_iload_n 2 dX10_show_47 rfl ?_
    refine e_if_le (tgt := 57) dX10_show_48 (by decide) (fun c => ?_) (fun c => ?_)
    · replace h := h.1 c
      refine e_aload_n 0 dX10_show_57 rfl ?_
      refine e_iload_n 1 dX10_show_58 rfl ?_
      refine e_iload_n 2 dX10_show_59 rfl ?_
      refine i_VV (μ' := MX10_saysTerm) (ci := 9) (r := x0) (as := [vI x1, vI x2]) (st := []) rfl dX10_show_60 mOKX10_saysTerm ⟨mlX10_210, imX10_saysTerm, seX10_saysTerm⟩ (by decide) (Nat.le_of_ble_eq_true rfl) rfl (Nat.le_of_ble_eq_true rfl) ⟨by decide, rfl⟩ o5 (CV.mono h ?_)
      clear h
      intro S60 I60 R60 h
      refine e_iinc (ls2 := [(2, vI (w32 (x2 + 1))), (0, vR x0), (1, vI x1)]) 2 dX10_show_63 rfl (by decide) rfl ?_
      refine e_goto (tgt := 37) dX10_show_66 (by decide) ?_
      exact e_sub (ls2 := [(0, vR x0), (1, vI x1), (2, vI (w32 (x2 + 1)))]) [1, 2, 0] rfl h
    · replace h := h.2 c
      refine e_aload_n 0 dX10_show_51 rfl ?_
      refine e_bipush (x := 43) dX10_show_52 ⟨by decide +kernel, by unfold InR; decide⟩ ?_
      refine i_VV (μ' := MX10_says) (ci := 9) (r := x0) (as := [vI 43]) (st := []) rfl dX10_show_54 mOKX10_says ⟨mlX10_207, imX10_says, seX10_says⟩ (by decide) (Nat.le_of_ble_eq_true rfl) rfl (Nat.le_of_ble_eq_true rfl) ⟨by decide, rfl⟩ o5 (CV.mono h ?_)
      clear h
      intro S54 I54 R54 h
      refine e_aload_n 0 dX10_show_57 rfl ?_
      refine e_iload_n 1 dX10_show_58 rfl ?_
      refine e_iload_n 2 dX10_show_59 rfl ?_
      have o8 := h.1
      replace h := h.2
      refine i_VV (μ' := MX10_saysTerm) (ci := 9) (r := x0) (as := [vI x1, vI x2]) (st := []) rfl dX10_show_60 mOKX10_saysTerm ⟨mlX10_210, imX10_saysTerm, seX10_saysTerm⟩ (by decide) (Nat.le_of_ble_eq_true rfl) rfl (Nat.le_of_ble_eq_true rfl) ⟨by decide, rfl⟩ o8 (CV.mono h ?_)
      clear h
      intro S60 I60 R60 h
      refine e_iinc (ls2 := [(2, vI (w32 (x2 + 1))), (0, vR x0), (1, vI x1)]) 2 dX10_show_63 rfl (by decide) rfl ?_
      refine e_goto (tgt := 37) dX10_show_66 (by decide) ?_
      exact e_sub (ls2 := [(0, vR x0), (1, vI x1), (2, vI (w32 (x2 + 1)))]) [1, 2, 0] rfl h

set_option maxRecDepth 100000 in
set_option maxHeartbeats 4000000 in
theorem bX10_out {G : Gl} {S : Sh} {I : MI} {R : MR} {Q : Sh → MI → MR → Int → Prop} {x0 : Nat} {x1 : Int} (h : (sT S x0 = 10 ∧ (∀ I2, I2 = up2 I x0 0 0 → (((vX10_isIn x0 x1 0 (w64 ((I2 x0 19) - 1))) = 0 → Q S I2 R (-1)) ∧ (¬ ((vX10_isIn x0 x1 0 (w64 ((I2 x0 19) - 1))) = 0) → (sT S (R x0 18) = 21 ∧ (((0 : Int) ≤ x1 ∧ x1 < (sL S (R x0 18) : Int)) ∧ Q S I2 R (I2 (R x0 18) (Int.toNat x1))))))))) : CI G MX10_out [vR x0, vI x1] S I R Q := by
  show E G MX10_out 0 [(0, vR x0), (1, vI x1)] [] S I R (qI Q)
  refine e_aload_n 0 dX10_out_0 rfl ?_
  refine e_iconst dX10_out_1 (by unfold InR; decide) ?_
  have o1 := h.1
  replace h := h.2
  obtain ⟨I2, eI2⟩ : ∃ z : MI, z = up2 I x0 0 0 := ⟨_, rfl⟩
  replace h := h I2 eI2
  refine e_putI dX10_out_2 flX10_65 rfl (Or.inl rfl) o1 (eqI eI2 ?_)
  refine e_aload_n 0 dX10_out_5 rfl ?_
  refine e_iload_n 1 dX10_out_6 rfl ?_
  refine e_i2l dX10_out_7 ?_
  refine e_lconst (x := 0) dX10_out_8 ⟨by decide +kernel, by unfold InL; decide⟩ ?_
  refine e_aload_n 0 dX10_out_9 rfl ?_
  refine e_getI dX10_out_10 flX10_201 rfl o1 ?_
  refine e_i2l dX10_out_13 ?_
  refine e_lconst (x := 1) dX10_out_14 ⟨by decide +kernel, by unfold InL; decide⟩ ?_
  refine e_lsub dX10_out_15 ?_
  refine i_VI (μ' := MX10_isIn) (ci := 9) (r := x0) (as := [vL x1, vL 0, vL (w64 ((I2 x0 19) - 1))]) (st := []) rfl dX10_out_16 mOKX10_isIn ⟨mlX10_106, imX10_isIn, seX10_isIn⟩ (by decide) (Nat.le_of_ble_eq_true rfl) rfl (Nat.le_of_ble_eq_true rfl) ⟨by decide, rfl⟩ o1 (sX10_isIn ?_)
  refine e_if_eq (tgt := 31) dX10_out_19 (by decide) (fun c => ?_) (fun c => ?_)
  · replace h := h.1 c
    refine e_iconst dX10_out_31 (by unfold InR; decide) ?_
    exact e_ireturn dX10_out_32 rfl ⟨_, rfl, h⟩
  · replace h := h.2 c
    refine e_aload_n 0 dX10_out_22 rfl ?_
    refine e_getR dX10_out_23 flX10_46 rfl o1 ?_
    refine e_iload_n 1 dX10_out_26 rfl ?_
    have o2 := h.1
    replace h := h.2
    have o3 := h.1
    replace h := h.2
    refine e_iald dX10_out_27 o2 o3 ?_
    refine e_goto (tgt := 32) dX10_out_28 (by decide) ?_
    exact e_ireturn dX10_out_32 rfl ⟨_, rfl, h⟩

set_option maxRecDepth 100000 in
set_option maxHeartbeats 4000000 in
theorem bX10_term {G : Gl} {S : Sh} {I : MI} {R : MR} {Q : Sh → MI → MR → Int → Prop} {x0 : Nat} {x1 : Int} {x2 : Int} {x3 : Int} (h : (sT S x0 = 10 ∧ (∀ I2, I2 = up2 I x0 0 0 → ((pX10_isSlot S x0 x1) ∧ (((vX10_isSlot x0 x1) ≠ 0 → ((x2 ≠ (-1) → (sT S (R x0 4) = 21 ∧ (((0 : Int) ≤ x1 ∧ x1 < (sL S (R x0 4) : Int)) ∧ (((vX10_isIn x0 x2 0 (w64 ((I2 (R x0 4) (Int.toNat x1)) - 1))) ≠ 0 → ((x3 = 0 → (sT S (R x0 5) = 21 ∧ (((0 : Int) ≤ (vX10_at x0 x1 x2) ∧ (vX10_at x0 x1 x2) < (sL S (R x0 5) : Int)) ∧ Q S I2 R (I2 (R x0 5) (Int.toNat (vX10_at x0 x1 x2)))))) ∧ (¬ (x3 = 0) → ((x3 = 1 → ((pX10_power S R x0 x1 x2 (w32 (x3 - 1))) ∧ Q S I2 R (vX10_power I2 R x0 x1 x2 (w32 (x3 - 1))))) ∧ (¬ (x3 = 1) → ((x3 = 2 → ((pX10_power S R x0 x1 x2 (w32 (x3 - 1))) ∧ Q S I2 R (vX10_power I2 R x0 x1 x2 (w32 (x3 - 1))))) ∧ (¬ (x3 = 2) → ((x3 = 3 → ((pX10_power S R x0 x1 x2 (w32 (x3 - 1))) ∧ Q S I2 R (vX10_power I2 R x0 x1 x2 (w32 (x3 - 1))))) ∧ (¬ (x3 = 3) → ((x3 ≠ 4 → Q S I2 R (-1)) ∧ (¬ (x3 ≠ 4) → ((pX10_degree S I2 R x0 x1 x2) ∧ Q S I2 R (vX10_degree I2 R x0 x1 x2))))))))))))) ∧ (¬ ((vX10_isIn x0 x2 0 (w64 ((I2 (R x0 4) (Int.toNat x1)) - 1))) ≠ 0) → Q S I2 R (-1)))))) ∧ (¬ (x2 ≠ (-1)) → (sT S (R x0 4) = 21 ∧ (((0 : Int) ≤ x1 ∧ x1 < (sL S (R x0 4) : Int)) ∧ Q S I2 R (I2 (R x0 4) (Int.toNat x1))))))) ∧ (¬ ((vX10_isSlot x0 x1) ≠ 0) → Q S I2 R (-1))))))) : CI G MX10_term [vR x0, vI x1, vI x2, vI x3] S I R Q := by
  show E G MX10_term 0 [(0, vR x0), (1, vI x1), (2, vI x2), (3, vI x3)] [] S I R (qI Q)
  refine e_aload_n 0 dX10_term_0 rfl ?_
  refine e_iconst dX10_term_1 (by unfold InR; decide) ?_
  have o1 := h.1
  replace h := h.2
  obtain ⟨I2, eI2⟩ : ∃ z : MI, z = up2 I x0 0 0 := ⟨_, rfl⟩
  replace h := h I2 eI2
  refine e_putI dX10_term_2 flX10_65 rfl (Or.inl rfl) o1 (eqI eI2 ?_)
  refine e_aload_n 0 dX10_term_5 rfl ?_
  refine e_iload_n 1 dX10_term_6 rfl ?_
  have o2 := h.1
  replace h := h.2
  refine i_VI (μ' := MX10_isSlot) (ci := 9) (r := x0) (as := [vI x1]) (st := []) rfl dX10_term_7 mOKX10_isSlot ⟨mlX10_188, imX10_isSlot, seX10_isSlot⟩ (by decide) (Nat.le_of_ble_eq_true rfl) rfl (Nat.le_of_ble_eq_true rfl) ⟨by decide, rfl⟩ o1 (sX10_isSlot o2 ?_)
  refine e_if_ne (tgt := 15) dX10_term_10 (by decide) (fun c => ?_) (fun c => ?_)
  · replace h := h.1 c
    refine e_iload_n 2 dX10_term_15 rfl ?_
    refine e_iconst dX10_term_16 (by unfold InR; decide) ?_
    refine e_icmp_ne (tgt := 27) dX10_term_17 (by decide) (fun c => ?_) (fun c => ?_)
    · replace h := h.1 c
      refine e_aload_n 0 dX10_term_27 rfl ?_
      refine e_iload_n 2 dX10_term_28 rfl ?_
      refine e_i2l dX10_term_29 ?_
      refine e_lconst (x := 0) dX10_term_30 ⟨by decide +kernel, by unfold InL; decide⟩ ?_
      refine e_aload_n 0 dX10_term_31 rfl ?_
      refine e_getR dX10_term_32 flX10_20 rfl o1 ?_
      refine e_iload_n 1 dX10_term_35 rfl ?_
      have o3 := h.1
      replace h := h.2
      have o4 := h.1
      replace h := h.2
      refine e_iald dX10_term_36 o3 o4 ?_
      refine e_i2l dX10_term_37 ?_
      refine e_lconst (x := 1) dX10_term_38 ⟨by decide +kernel, by unfold InL; decide⟩ ?_
      refine e_lsub dX10_term_39 ?_
      refine i_VI (μ' := MX10_isIn) (ci := 9) (r := x0) (as := [vL x2, vL 0, vL (w64 ((I2 (R x0 4) (Int.toNat x1)) - 1))]) (st := []) rfl dX10_term_40 mOKX10_isIn ⟨mlX10_106, imX10_isIn, seX10_isIn⟩ (by decide) (Nat.le_of_ble_eq_true rfl) rfl (Nat.le_of_ble_eq_true rfl) ⟨by decide, rfl⟩ o1 (sX10_isIn ?_)
      refine e_if_ne (tgt := 48) dX10_term_43 (by decide) (fun c => ?_) (fun c => ?_)
      · replace h := h.1 c
        refine e_iload_n 3 dX10_term_48 rfl ?_
        by_cases c0 : x3 = 0
        · replace h := h.1 c0
          refine e_tabIn (tgt := 80) dX10_term_49 0 c0 (by decide) rfl (by decide) ?_
          refine e_aload_n 0 dX10_term_80 rfl ?_
          refine e_getR dX10_term_81 flX10_23 rfl o1 ?_
          refine e_aload_n 0 dX10_term_84 rfl ?_
          refine e_iload_n 1 dX10_term_85 rfl ?_
          refine e_iload_n 2 dX10_term_86 rfl ?_
          refine i_VI (μ' := MX10_at) (ci := 9) (r := x0) (as := [vI x1, vI x2]) (st := [vR (R x0 5)]) rfl dX10_term_87 mOKX10_at ⟨mlX10_68, imX10_at, seX10_at⟩ (by decide) (Nat.le_of_ble_eq_true rfl) rfl (Nat.le_of_ble_eq_true rfl) ⟨by decide, rfl⟩ o1 (sX10_at ?_)
          have o5 := h.1
          replace h := h.2
          have o6 := h.1
          replace h := h.2
          refine e_iald dX10_term_90 o5 o6 ?_
          exact e_ireturn dX10_term_91 rfl ⟨_, rfl, h⟩
        · replace h := h.2 c0
          by_cases c1 : x3 = 1
          · replace h := h.1 c1
            refine e_tabIn (tgt := 92) dX10_term_49 1 c1 (by decide) rfl (by decide) ?_
            refine e_aload_n 0 dX10_term_92 rfl ?_
            refine e_iload_n 1 dX10_term_93 rfl ?_
            refine e_iload_n 2 dX10_term_94 rfl ?_
            refine e_iload_n 3 dX10_term_95 rfl ?_
            refine e_iconst dX10_term_96 (by unfold InR; decide) ?_
            refine e_isub dX10_term_97 ?_
            have o7 := h.1
            replace h := h.2
            refine i_VI (μ' := MX10_power) (ci := 9) (r := x0) (as := [vI x1, vI x2, vI (w32 (x3 - 1))]) (st := []) rfl dX10_term_98 mOKX10_power ⟨mlX10_72, imX10_power, seX10_power⟩ (by decide) (Nat.le_of_ble_eq_true rfl) rfl (Nat.le_of_ble_eq_true rfl) ⟨by decide, rfl⟩ o1 (sX10_power o7 ?_)
            exact e_ireturn dX10_term_101 rfl ⟨_, rfl, h⟩
          · replace h := h.2 c1
            by_cases c2 : x3 = 2
            · replace h := h.1 c2
              refine e_tabIn (tgt := 92) dX10_term_49 2 c2 (by decide) rfl (by decide) ?_
              refine e_aload_n 0 dX10_term_92 rfl ?_
              refine e_iload_n 1 dX10_term_93 rfl ?_
              refine e_iload_n 2 dX10_term_94 rfl ?_
              refine e_iload_n 3 dX10_term_95 rfl ?_
              refine e_iconst dX10_term_96 (by unfold InR; decide) ?_
              refine e_isub dX10_term_97 ?_
              have o8 := h.1
              replace h := h.2
              refine i_VI (μ' := MX10_power) (ci := 9) (r := x0) (as := [vI x1, vI x2, vI (w32 (x3 - 1))]) (st := []) rfl dX10_term_98 mOKX10_power ⟨mlX10_72, imX10_power, seX10_power⟩ (by decide) (Nat.le_of_ble_eq_true rfl) rfl (Nat.le_of_ble_eq_true rfl) ⟨by decide, rfl⟩ o1 (sX10_power o8 ?_)
              exact e_ireturn dX10_term_101 rfl ⟨_, rfl, h⟩
            · replace h := h.2 c2
              by_cases c3 : x3 = 3
              · replace h := h.1 c3
                refine e_tabIn (tgt := 92) dX10_term_49 3 c3 (by decide) rfl (by decide) ?_
                refine e_aload_n 0 dX10_term_92 rfl ?_
                refine e_iload_n 1 dX10_term_93 rfl ?_
                refine e_iload_n 2 dX10_term_94 rfl ?_
                refine e_iload_n 3 dX10_term_95 rfl ?_
                refine e_iconst dX10_term_96 (by unfold InR; decide) ?_
                refine e_isub dX10_term_97 ?_
                have o9 := h.1
                replace h := h.2
                refine i_VI (μ' := MX10_power) (ci := 9) (r := x0) (as := [vI x1, vI x2, vI (w32 (x3 - 1))]) (st := []) rfl dX10_term_98 mOKX10_power ⟨mlX10_72, imX10_power, seX10_power⟩ (by decide) (Nat.le_of_ble_eq_true rfl) rfl (Nat.le_of_ble_eq_true rfl) ⟨by decide, rfl⟩ o1 (sX10_power o9 ?_)
                exact e_ireturn dX10_term_101 rfl ⟨_, rfl, h⟩
              · replace h := h.2 c3
                refine e_tabOut (tgt := 102) dX10_term_49 (by omega) (by decide) ?_
                refine e_iload_n 3 dX10_term_102 rfl ?_
                refine e_iconst dX10_term_103 (by unfold InR; decide) ?_
                refine e_icmp_ne (tgt := 116) dX10_term_104 (by decide) (fun c => ?_) (fun c => ?_)
                · replace h := h.1 c
                  refine e_iconst dX10_term_116 (by unfold InR; decide) ?_
                  exact e_ireturn dX10_term_117 rfl ⟨_, rfl, h⟩
                · replace h := h.2 c
                  refine e_aload_n 0 dX10_term_107 rfl ?_
                  refine e_iload_n 1 dX10_term_108 rfl ?_
                  refine e_iload_n 2 dX10_term_109 rfl ?_
                  have o10 := h.1
                  replace h := h.2
                  refine i_VI (μ' := MX10_degree) (ci := 9) (r := x0) (as := [vI x1, vI x2]) (st := []) rfl dX10_term_110 mOKX10_degree ⟨mlX10_79, imX10_degree, seX10_degree⟩ (by decide) (Nat.le_of_ble_eq_true rfl) rfl (Nat.le_of_ble_eq_true rfl) ⟨by decide, rfl⟩ o1 (sX10_degree o10 ?_)
                  refine e_goto (tgt := 117) dX10_term_113 (by decide) ?_
                  exact e_ireturn dX10_term_117 rfl ⟨_, rfl, h⟩
      · replace h := h.2 c
        refine e_iconst dX10_term_46 (by unfold InR; decide) ?_
        exact e_ireturn dX10_term_47 rfl ⟨_, rfl, h⟩
    · replace h := h.2 c
      refine e_aload_n 0 dX10_term_20 rfl ?_
      refine e_getR dX10_term_21 flX10_20 rfl o1 ?_
      refine e_iload_n 1 dX10_term_24 rfl ?_
      have o11 := h.1
      replace h := h.2
      have o12 := h.1
      replace h := h.2
      refine e_iald dX10_term_25 o11 o12 ?_
      exact e_ireturn dX10_term_26 rfl ⟨_, rfl, h⟩
  · replace h := h.2 c
    refine e_iconst dX10_term_13 (by unfold InR; decide) ?_
    exact e_ireturn dX10_term_14 rfl ⟨_, rfl, h⟩

def vX10_isUnit (I : MI) (R : MR) (x0 : Nat) (x1 : Int) : Int := (if (I (R x0 4) (Int.toNat x1)) ≤ 0 then 0 else (if (vX10_low I R x0 x1) ≠ 0 then 0 else 1))
def pX10_isUnit (S : Sh) (I : MI) (R : MR) (x0 : Nat) (x1 : Int) : Prop := (sT S x0 = 10 ∧ (sT S (R x0 4) = 21 ∧ (((0 : Int) ≤ x1 ∧ x1 < (sL S (R x0 4) : Int)) ∧ (((I (R x0 4) (Int.toNat x1)) ≤ 0 → True) ∧ (¬ ((I (R x0 4) (Int.toNat x1)) ≤ 0) → ((pX10_low S I R x0 x1) ∧ True))))))
set_option maxRecDepth 100000 in
set_option maxHeartbeats 4000000 in
theorem sX10_isUnit {G : Gl} {S : Sh} {I : MI} {R : MR} {Q : Sh → MI → MR → Int → Prop} {x0 : Nat} {x1 : Int} (hp : pX10_isUnit S I R x0 x1) (hq : Q S I R (vX10_isUnit I R x0 x1)) : CI G MX10_isUnit [vR x0, vI x1] S I R Q := by
  show E G MX10_isUnit 0 [(0, vR x0), (1, vI x1)] [] S I R (qI Q)
  unfold vX10_isUnit at hq
  unfold pX10_isUnit at hp
  refine e_aload_n 0 dX10_isUnit_0 rfl ?_
  have o1 := hp.1
  replace hp := hp.2
  refine e_getR dX10_isUnit_1 flX10_20 rfl o1 ?_
  refine e_iload_n 1 dX10_isUnit_4 rfl ?_
  have o2 := hp.1
  replace hp := hp.2
  have o3 := hp.1
  replace hp := hp.2
  refine e_iald dX10_isUnit_5 o2 o3 ?_
  refine e_if_le (tgt := 21) dX10_isUnit_6 (by decide) (fun c => ?_) (fun c => ?_)
  · rw [if_pos c] at hq
    replace hp := hp.1 c
    refine e_iconst dX10_isUnit_21 (by unfold InR; decide) ?_
    exact e_zreturn dX10_isUnit_22 rfl (by decide) ⟨_, rfl, hq⟩
  · rw [if_neg c] at hq
    replace hp := hp.2 c
    refine e_aload_n 0 dX10_isUnit_9 rfl ?_
    refine e_iload_n 1 dX10_isUnit_10 rfl ?_
    have o4 := hp.1
    replace hp := hp.2
    refine i_VI (μ' := MX10_low) (ci := 9) (r := x0) (as := [vI x1]) (st := []) rfl dX10_isUnit_11 mOKX10_low ⟨mlX10_86, imX10_low, seX10_low⟩ (by decide) (Nat.le_of_ble_eq_true rfl) rfl (Nat.le_of_ble_eq_true rfl) ⟨by decide, rfl⟩ o1 (sX10_low o4 ?_)
    refine e_if_ne (tgt := 21) dX10_isUnit_14 (by decide) (fun c => ?_) (fun c => ?_)
    · rw [if_pos c] at hq
      refine e_iconst dX10_isUnit_21 (by unfold InR; decide) ?_
      exact e_zreturn dX10_isUnit_22 rfl (by decide) ⟨_, rfl, hq⟩
    · rw [if_neg c] at hq
      refine e_iconst dX10_isUnit_17 (by unfold InR; decide) ?_
      refine e_goto (tgt := 22) dX10_isUnit_18 (by decide) ?_
      exact e_zreturn dX10_isUnit_22 rfl (by decide) ⟨_, rfl, hq⟩

def LX10_shape_42 (G : Gl) (x0 : Nat) (x1 : Int) (x2 : Int) (y0 : Int) (S : Sh) (I : MI) (R : MR) (Q : Sh → MI → MR → Int → Prop) : Prop := E G MX10_shape 42 [(0, vR x0), (1, vI x1), (2, vI x2)] [vI y0] S I R (qI Q)
set_option maxRecDepth 100000 in
set_option maxHeartbeats 4000000 in
theorem bX10_shape {G : Gl} {S : Sh} {I : MI} {R : MR} {Q : Sh → MI → MR → Int → Prop} {x0 : Nat} {x1 : Int} {x2 : Int} (h : (sT S x0 = 10 ∧ (∀ I2, I2 = up2 I x0 0 0 → ((pX10_isSlot S x0 x1) ∧ (((vX10_isSlot x0 x1) = 0 → Q S I2 R (-1)) ∧ (¬ ((vX10_isSlot x0 x1) = 0) → (((vX10_isIn x0 x2 0 4) ≠ 0 → (sT S (R x0 4) = 21 ∧ (((0 : Int) ≤ x1 ∧ x1 < (sL S (R x0 4) : Int)) ∧ (((I2 (R x0 4) (Int.toNat x1)) ≤ 0 → LX10_shape_42 G x0 x1 x2 0 S I2 R Q) ∧ (¬ ((I2 (R x0 4) (Int.toNat x1)) ≤ 0) → LX10_shape_42 G x0 x1 x2 1 S I2 R Q))))) ∧ (¬ ((vX10_isIn x0 x2 0 4) ≠ 0) → Q S I2 R (-1))))))))) : CI G MX10_shape [vR x0, vI x1, vI x2] S I R Q := by
  show E G MX10_shape 0 [(0, vR x0), (1, vI x1), (2, vI x2)] [] S I R (qI Q)
  refine e_aload_n 0 dX10_shape_0 rfl ?_
  refine e_iconst dX10_shape_1 (by unfold InR; decide) ?_
  have o1 := h.1
  replace h := h.2
  obtain ⟨I2, eI2⟩ : ∃ z : MI, z = up2 I x0 0 0 := ⟨_, rfl⟩
  replace h := h I2 eI2
  refine e_putI dX10_shape_2 flX10_65 rfl (Or.inl rfl) o1 (eqI eI2 ?_)
  refine e_aload_n 0 dX10_shape_5 rfl ?_
  refine e_iload_n 1 dX10_shape_6 rfl ?_
  have o2 := h.1
  replace h := h.2
  refine i_VI (μ' := MX10_isSlot) (ci := 9) (r := x0) (as := [vI x1]) (st := []) rfl dX10_shape_7 mOKX10_isSlot ⟨mlX10_188, imX10_isSlot, seX10_isSlot⟩ (by decide) (Nat.le_of_ble_eq_true rfl) rfl (Nat.le_of_ble_eq_true rfl) ⟨by decide, rfl⟩ o1 (sX10_isSlot o2 ?_)
  refine e_if_eq (tgt := 26) dX10_shape_10 (by decide) (fun c => ?_) (fun c => ?_)
  · replace h := h.1 c
    refine e_iconst dX10_shape_26 (by unfold InR; decide) ?_
    exact e_ireturn dX10_shape_27 rfl ⟨_, rfl, h⟩
  · replace h := h.2 c
    refine e_aload_n 0 dX10_shape_13 rfl ?_
    refine e_iload_n 2 dX10_shape_14 rfl ?_
    refine e_i2l dX10_shape_15 ?_
    refine e_lconst (x := 0) dX10_shape_16 ⟨by decide +kernel, by unfold InL; decide⟩ ?_
    refine e_ldc2 (x := 4) dX10_shape_17 cnX10_131 (by unfold InL; decide) ?_
    refine i_VI (μ' := MX10_isIn) (ci := 9) (r := x0) (as := [vL x2, vL 0, vL 4]) (st := []) rfl dX10_shape_20 mOKX10_isIn ⟨mlX10_106, imX10_isIn, seX10_isIn⟩ (by decide) (Nat.le_of_ble_eq_true rfl) rfl (Nat.le_of_ble_eq_true rfl) ⟨by decide, rfl⟩ o1 (sX10_isIn ?_)
    refine e_if_ne (tgt := 28) dX10_shape_23 (by decide) (fun c => ?_) (fun c => ?_)
    · replace h := h.1 c
      refine e_aload_n 0 dX10_shape_28 rfl ?_
      refine e_getR dX10_shape_29 flX10_20 rfl o1 ?_
      refine e_iload_n 1 dX10_shape_32 rfl ?_
      have o3 := h.1
      replace h := h.2
      have o4 := h.1
      replace h := h.2
      refine e_iald dX10_shape_33 o3 o4 ?_
      refine e_if_le (tgt := 41) dX10_shape_34 (by decide) (fun c => ?_) (fun c => ?_)
      · replace h := h.1 c
        refine e_iconst dX10_shape_41 (by unfold InR; decide) ?_
        exact e_sub (ls2 := [(0, vR x0), (1, vI x1), (2, vI x2)]) [0, 1, 2] rfl h
      · replace h := h.2 c
        refine e_iconst dX10_shape_37 (by unfold InR; decide) ?_
        refine e_goto (tgt := 42) dX10_shape_38 (by decide) ?_
        exact e_sub (ls2 := [(0, vR x0), (1, vI x1), (2, vI x2)]) [0, 1, 2] rfl h
    · replace h := h.2 c
      refine e_iconst dX10_shape_26 (by unfold InR; decide) ?_
      exact e_ireturn dX10_shape_27 rfl ⟨_, rfl, h⟩
set_option maxRecDepth 100000 in
set_option maxHeartbeats 4000000 in
theorem bX10_shape_42 {G : Gl} {S : Sh} {I : MI} {R : MR} {Q : Sh → MI → MR → Int → Prop} {x0 : Nat} {x1 : Int} {x2 : Int} {y0 : Int} (h : ((x2 = 0 → ((y0 = 0 → Q S I R (-1)) ∧ (¬ (y0 = 0) → (sT S x0 = 10 ∧ ((pX10_low S I R x0 x1) ∧ Q S I R (vX10_low I R x0 x1)))))) ∧ (¬ (x2 = 0) → ((x2 = 1 → ((y0 = 0 → Q S I R (-1)) ∧ (¬ (y0 = 0) → (sT S x0 = 10 ∧ ((pX10_high S I R x0 x1) ∧ Q S I R (vX10_high I R x0 x1)))))) ∧ (¬ (x2 = 1) → ((x2 = 2 → ((y0 = 0 → Q S I R (-1)) ∧ (¬ (y0 = 0) → (sT S x0 = 10 ∧ ((pX10_ecart S I R x0 x1) ∧ Q S I R (vX10_ecart I R x0 x1)))))) ∧ (¬ (x2 = 2) → ((x2 = 3 → ((y0 = 0 → Q S I R 1) ∧ (¬ (y0 = 0) → (sT S x0 = 10 ∧ ((pX10_ecart S I R x0 x1) ∧ (((vX10_ecart I R x0 x1) ≠ 0 → Q S I R 0) ∧ (¬ ((vX10_ecart I R x0 x1) ≠ 0) → Q S I R 1))))))) ∧ (¬ (x2 = 3) → (sT S x0 = 10 ∧ ((pX10_isUnit S I R x0 x1) ∧ (((vX10_isUnit I R x0 x1) = 0 → Q S I R 0) ∧ (¬ ((vX10_isUnit I R x0 x1) = 0) → Q S I R 1))))))))))))) : LX10_shape_42 G x0 x1 x2 y0 S I R Q := by
  show E G MX10_shape 42 [(0, vR x0), (1, vI x1), (2, vI x2)] [vI y0] S I R (qI Q)
  refine e_istore_n (ls2 := [(3, vI y0), (0, vR x0), (1, vI x1), (2, vI x2)]) dX10_shape_42 (by decide) rfl ?_
  refine e_iload_n 3 dX10_shape_43 rfl ?_
  by_cases c0 : x2 = 0
  · replace h := h.1 c0
    refine e_tabIn (tgt := 76) dX10_shape_44 0 c0 (by decide) rfl (by decide) ?_
    refine e_iload_n 0 dX10_shape_76 rfl ?_
    refine e_if_eq (tgt := 88) dX10_shape_77 (by decide) (fun c => ?_) (fun c => ?_)
    · replace h := h.1 c
      refine e_iconst dX10_shape_88 (by unfold InR; decide) ?_
      exact e_ireturn dX10_shape_89 rfl ⟨_, rfl, h⟩
    · replace h := h.2 c
      refine e_aload_n 1 dX10_shape_80 rfl ?_
      refine e_iload_n 2 dX10_shape_81 rfl ?_
      have o5 := h.1
      replace h := h.2
      have o6 := h.1
      replace h := h.2
      refine i_VI (μ' := MX10_low) (ci := 9) (r := x0) (as := [vI x1]) (st := []) rfl dX10_shape_82 mOKX10_low ⟨mlX10_86, imX10_low, seX10_low⟩ (by decide) (Nat.le_of_ble_eq_true rfl) rfl (Nat.le_of_ble_eq_true rfl) ⟨by decide, rfl⟩ o5 (sX10_low o6 ?_)
      refine e_goto (tgt := 89) dX10_shape_85 (by decide) ?_
      exact e_ireturn dX10_shape_89 rfl ⟨_, rfl, h⟩
  · replace h := h.2 c0
    by_cases c1 : x2 = 1
    · replace h := h.1 c1
      refine e_tabIn (tgt := 90) dX10_shape_44 1 c1 (by decide) rfl (by decide) ?_
      refine e_iload_n 0 dX10_shape_90 rfl ?_
      refine e_if_eq (tgt := 102) dX10_shape_91 (by decide) (fun c => ?_) (fun c => ?_)
      · replace h := h.1 c
        refine e_iconst dX10_shape_102 (by unfold InR; decide) ?_
        exact e_ireturn dX10_shape_103 rfl ⟨_, rfl, h⟩
      · replace h := h.2 c
        refine e_aload_n 1 dX10_shape_94 rfl ?_
        refine e_iload_n 2 dX10_shape_95 rfl ?_
        have o7 := h.1
        replace h := h.2
        have o8 := h.1
        replace h := h.2
        refine i_VI (μ' := MX10_high) (ci := 9) (r := x0) (as := [vI x1]) (st := []) rfl dX10_shape_96 mOKX10_high ⟨mlX10_82, imX10_high, seX10_high⟩ (by decide) (Nat.le_of_ble_eq_true rfl) rfl (Nat.le_of_ble_eq_true rfl) ⟨by decide, rfl⟩ o7 (sX10_high o8 ?_)
        refine e_goto (tgt := 103) dX10_shape_99 (by decide) ?_
        exact e_ireturn dX10_shape_103 rfl ⟨_, rfl, h⟩
    · replace h := h.2 c1
      by_cases c2 : x2 = 2
      · replace h := h.1 c2
        refine e_tabIn (tgt := 104) dX10_shape_44 2 c2 (by decide) rfl (by decide) ?_
        refine e_iload_n 0 dX10_shape_104 rfl ?_
        refine e_if_eq (tgt := 116) dX10_shape_105 (by decide) (fun c => ?_) (fun c => ?_)
        · replace h := h.1 c
          refine e_iconst dX10_shape_116 (by unfold InR; decide) ?_
          exact e_ireturn dX10_shape_117 rfl ⟨_, rfl, h⟩
        · replace h := h.2 c
          refine e_aload_n 1 dX10_shape_108 rfl ?_
          refine e_iload_n 2 dX10_shape_109 rfl ?_
          have o9 := h.1
          replace h := h.2
          have o10 := h.1
          replace h := h.2
          refine i_VI (μ' := MX10_ecart) (ci := 9) (r := x0) (as := [vI x1]) (st := []) rfl dX10_shape_110 mOKX10_ecart ⟨mlX10_213, imX10_ecart, seX10_ecart⟩ (by decide) (Nat.le_of_ble_eq_true rfl) rfl (Nat.le_of_ble_eq_true rfl) ⟨by decide, rfl⟩ o9 (sX10_ecart o10 ?_)
          refine e_goto (tgt := 117) dX10_shape_113 (by decide) ?_
          exact e_ireturn dX10_shape_117 rfl ⟨_, rfl, h⟩
      · replace h := h.2 c2
        by_cases c3 : x2 = 3
        · replace h := h.1 c3
          refine e_tabIn (tgt := 118) dX10_shape_44 3 c3 (by decide) rfl (by decide) ?_
          refine e_iload_n 0 dX10_shape_118 rfl ?_
          refine e_if_eq (tgt := 130) dX10_shape_119 (by decide) (fun c => ?_) (fun c => ?_)
          · replace h := h.1 c
            refine e_iconst dX10_shape_130 (by unfold InR; decide) ?_
            refine e_goto (tgt := 135) dX10_shape_131 (by decide) ?_
            exact e_ireturn dX10_shape_135 rfl ⟨_, rfl, h⟩
          · replace h := h.2 c
            refine e_aload_n 1 dX10_shape_122 rfl ?_
            refine e_iload_n 2 dX10_shape_123 rfl ?_
            have o11 := h.1
            replace h := h.2
            have o12 := h.1
            replace h := h.2
            refine i_VI (μ' := MX10_ecart) (ci := 9) (r := x0) (as := [vI x1]) (st := []) rfl dX10_shape_124 mOKX10_ecart ⟨mlX10_213, imX10_ecart, seX10_ecart⟩ (by decide) (Nat.le_of_ble_eq_true rfl) rfl (Nat.le_of_ble_eq_true rfl) ⟨by decide, rfl⟩ o11 (sX10_ecart o12 ?_)
            refine e_if_ne (tgt := 134) dX10_shape_127 (by decide) (fun c => ?_) (fun c => ?_)
            · replace h := h.1 c
              refine e_iconst dX10_shape_134 (by unfold InR; decide) ?_
              exact e_ireturn dX10_shape_135 rfl ⟨_, rfl, h⟩
            · replace h := h.2 c
              refine e_iconst dX10_shape_130 (by unfold InR; decide) ?_
              refine e_goto (tgt := 135) dX10_shape_131 (by decide) ?_
              exact e_ireturn dX10_shape_135 rfl ⟨_, rfl, h⟩
        · replace h := h.2 c3
          refine e_tabOut (tgt := 136) dX10_shape_44 (by omega) (by decide) ?_
          refine e_aload_n 1 dX10_shape_136 rfl ?_
          refine e_iload_n 2 dX10_shape_137 rfl ?_
          have o13 := h.1
          replace h := h.2
          have o14 := h.1
          replace h := h.2
          refine i_VI (μ' := MX10_isUnit) (ci := 9) (r := x0) (as := [vI x1]) (st := []) rfl dX10_shape_138 mOKX10_isUnit ⟨mlX10_216, imX10_isUnit, seX10_isUnit⟩ (by decide) (Nat.le_of_ble_eq_true rfl) rfl (Nat.le_of_ble_eq_true rfl) ⟨by decide, rfl⟩ o13 (sX10_isUnit o14 ?_)
          refine e_if_eq (tgt := 148) dX10_shape_141 (by decide) (fun c => ?_) (fun c => ?_)
          · replace h := h.1 c
            refine e_iconst dX10_shape_148 (by unfold InR; decide) ?_
            exact e_ireturn dX10_shape_149 rfl ⟨_, rfl, h⟩
          · replace h := h.2 c
            refine e_iconst dX10_shape_144 (by unfold InR; decide) ?_
            refine e_goto (tgt := 149) dX10_shape_145 (by decide) ?_
            exact e_ireturn dX10_shape_149 rfl ⟨_, rfl, h⟩

def LX10_multiplies_2 (G : Gl) (x0 : Nat) (x1 : Int) (x2 : Int) (x3 : Int) (S : Sh) (I : MI) (R : MR) (Q : Sh → MI → MR → Prop) : Prop := E G MX10_multiplies 2 [(0, vR x0), (1, vI x1), (2, vI x2), (3, vI x3)] [] S I R (qV Q)
set_option maxRecDepth 100000 in
set_option maxHeartbeats 4000000 in
theorem bX10_multiplies {G : Gl} {S : Sh} {I : MI} {R : MR} {Q : Sh → MI → MR → Prop} {x0 : Nat} {x1 : Int} {x2 : Int} (h : LX10_multiplies_2 G x0 x1 x2 0 S I R Q) : CV G MX10_multiplies [vR x0, vI x1, vI x2] S I R Q := by
  show E G MX10_multiplies 0 [(0, vR x0), (1, vI x1), (2, vI x2)] [] S I R (qV Q)
  refine e_iconst dX10_multiplies_0 (by unfold InR; decide) ?_
  refine e_istore_n (ls2 := [(3, vI 0), (0, vR x0), (1, vI x1), (2, vI x2)]) dX10_multiplies_1 (by decide) rfl ?_
  exact e_sub (ls2 := [(0, vR x0), (1, vI x1), (2, vI x2), (3, vI 0)]) [1, 2, 3, 0] rfl h
set_option maxRecDepth 100000 in
set_option maxHeartbeats 4000000 in
theorem bX10_multiplies_2 {G : Gl} {S : Sh} {I : MI} {R : MR} {Q : Sh → MI → MR → Prop} {x0 : Nat} {x1 : Int} {x2 : Int} {x3 : Int} (h : (sT S x0 = 10 ∧ (sT S (R x0 4) = 21 ∧ (((0 : Int) ≤ x1 ∧ x1 < (sL S (R x0 4) : Int)) ∧ (((I (R x0 4) (Int.toNat x1)) ≤ x3 → Q S I R) ∧ (¬ ((I (R x0 4) (Int.toNat x1)) ≤ x3) → (sT S (R x0 5) = 21 ∧ (((0 : Int) ≤ (vX10_at x0 x1 x3) ∧ (vX10_at x0 x1 x3) < (sL S (R x0 5) : Int)) ∧ ((pX10_power S R x0 x1 x3 0) ∧ ((pX10_power S R x0 x1 x3 1) ∧ ((pX10_power S R x0 x1 x3 2) ∧ (CV G MX10_heapsRow [vR x0, vI x2, vI (I (R x0 5) (Int.toNat (vX10_at x0 x1 x3))), vI (vX10_power I R x0 x1 x3 0), vI (vX10_power I R x0 x1 x3 1), vI (vX10_power I R x0 x1 x3 2)] S I R (fun S46 I46 R46 => LX10_multiplies_2 G x0 x1 x2 (w32 (x3 + 1)) S46 I46 R46 Q))))))))))))) : LX10_multiplies_2 G x0 x1 x2 x3 S I R Q := by
  show E G MX10_multiplies 2 [(0, vR x0), (1, vI x1), (2, vI x2), (3, vI x3)] [] S I R (qV Q)
  refine e_iload_n 3 dX10_multiplies_2 rfl ?_
  refine e_aload_n 0 dX10_multiplies_3 rfl ?_
  have o1 := h.1
  replace h := h.2
  refine e_getR dX10_multiplies_4 flX10_20 rfl o1 ?_
  refine e_iload_n 1 dX10_multiplies_7 rfl ?_
  have o2 := h.1
  replace h := h.2
  have o3 := h.1
  replace h := h.2
  refine e_iald dX10_multiplies_8 o2 o3 ?_
  refine e_icmp_ge (tgt := 55) dX10_multiplies_9 (by decide) (fun c => ?_) (fun c => ?_)
  · replace h := h.1 c
    exact e_return dX10_multiplies_55 rfl ⟨rfl, h⟩
  · replace h := h.2 c
    refine e_aload_n 0 dX10_multiplies_12 rfl ?_
    refine e_iload_n 2 dX10_multiplies_13 rfl ?_
    refine e_aload_n 0 dX10_multiplies_14 rfl ?_
    refine e_getR dX10_multiplies_15 flX10_23 rfl o1 ?_
    refine e_aload_n 0 dX10_multiplies_18 rfl ?_
    refine e_iload_n 1 dX10_multiplies_19 rfl ?_
    refine e_iload_n 3 dX10_multiplies_20 rfl ?_
    refine i_VI (μ' := MX10_at) (ci := 9) (r := x0) (as := [vI x1, vI x3]) (st := [vR (R x0 5), vI x2, vR x0]) rfl dX10_multiplies_21 mOKX10_at ⟨mlX10_68, imX10_at, seX10_at⟩ (by decide) (Nat.le_of_ble_eq_true rfl) rfl (Nat.le_of_ble_eq_true rfl) ⟨by decide, rfl⟩ o1 (sX10_at ?_)
    have o4 := h.1
    replace h := h.2
    have o5 := h.1
    replace h := h.2
    refine e_iald dX10_multiplies_24 o4 o5 ?_
    refine e_aload_n 0 dX10_multiplies_25 rfl ?_
    refine e_iload_n 1 dX10_multiplies_26 rfl ?_
    refine e_iload_n 3 dX10_multiplies_27 rfl ?_
    refine e_iconst dX10_multiplies_28 (by unfold InR; decide) ?_
    have o6 := h.1
    replace h := h.2
    refine i_VI (μ' := MX10_power) (ci := 9) (r := x0) (as := [vI x1, vI x3, vI 0]) (st := [vI (I (R x0 5) (Int.toNat (vX10_at x0 x1 x3))), vI x2, vR x0]) rfl dX10_multiplies_29 mOKX10_power ⟨mlX10_72, imX10_power, seX10_power⟩ (by decide) (Nat.le_of_ble_eq_true rfl) rfl (Nat.le_of_ble_eq_true rfl) ⟨by decide, rfl⟩ o1 (sX10_power o6 ?_)
    refine e_aload_n 0 dX10_multiplies_32 rfl ?_
    refine e_iload_n 1 dX10_multiplies_33 rfl ?_
    refine e_iload_n 3 dX10_multiplies_34 rfl ?_
    refine e_iconst dX10_multiplies_35 (by unfold InR; decide) ?_
    have o7 := h.1
    replace h := h.2
    refine i_VI (μ' := MX10_power) (ci := 9) (r := x0) (as := [vI x1, vI x3, vI 1]) (st := [vI (vX10_power I R x0 x1 x3 0), vI (I (R x0 5) (Int.toNat (vX10_at x0 x1 x3))), vI x2, vR x0]) rfl dX10_multiplies_36 mOKX10_power ⟨mlX10_72, imX10_power, seX10_power⟩ (by decide) (Nat.le_of_ble_eq_true rfl) rfl (Nat.le_of_ble_eq_true rfl) ⟨by decide, rfl⟩ o1 (sX10_power o7 ?_)
    refine e_aload_n 0 dX10_multiplies_39 rfl ?_
    refine e_iload_n 1 dX10_multiplies_40 rfl ?_
    refine e_iload_n 3 dX10_multiplies_41 rfl ?_
    refine e_iconst dX10_multiplies_42 (by unfold InR; decide) ?_
    have o8 := h.1
    replace h := h.2
    refine i_VI (μ' := MX10_power) (ci := 9) (r := x0) (as := [vI x1, vI x3, vI 2]) (st := [vI (vX10_power I R x0 x1 x3 1), vI (vX10_power I R x0 x1 x3 0), vI (I (R x0 5) (Int.toNat (vX10_at x0 x1 x3))), vI x2, vR x0]) rfl dX10_multiplies_43 mOKX10_power ⟨mlX10_72, imX10_power, seX10_power⟩ (by decide) (Nat.le_of_ble_eq_true rfl) rfl (Nat.le_of_ble_eq_true rfl) ⟨by decide, rfl⟩ o1 (sX10_power o8 ?_)
    refine i_VV (μ' := MX10_heapsRow) (ci := 9) (r := x0) (as := [vI x2, vI (I (R x0 5) (Int.toNat (vX10_at x0 x1 x3))), vI (vX10_power I R x0 x1 x3 0), vI (vX10_power I R x0 x1 x3 1), vI (vX10_power I R x0 x1 x3 2)]) (st := []) rfl dX10_multiplies_46 mOKX10_heapsRow ⟨mlX10_124, imX10_heapsRow, seX10_heapsRow⟩ (by decide) (Nat.le_of_ble_eq_true rfl) rfl (Nat.le_of_ble_eq_true rfl) ⟨by decide, rfl⟩ o1 (CV.mono h ?_)
    clear h
    intro S46 I46 R46 h
    refine e_iinc (ls2 := [(3, vI (w32 (x3 + 1))), (0, vR x0), (1, vI x1), (2, vI x2)]) 3 dX10_multiplies_49 rfl (by decide) rfl ?_
    refine e_goto (tgt := 2) dX10_multiplies_52 (by decide) ?_
    exact e_sub (ls2 := [(0, vR x0), (1, vI x1), (2, vI x2), (3, vI (w32 (x3 + 1)))]) [1, 2, 3, 0] rfl h

def LX10_make_95 (G : Gl) (x0 : Nat) (x4 : Int) (S : Sh) (I : MI) (R : MR) (Q : Sh → MI → MR → Int → Prop) : Prop := E G MX10_make 95 [(0, vR x0), (4, vI x4)] [] S I R (qI Q)
set_option maxRecDepth 100000 in
set_option maxHeartbeats 4000000 in
theorem bX10_make {G : Gl} {S : Sh} {I : MI} {R : MR} {Q : Sh → MI → MR → Int → Prop} {x0 : Nat} {x1 : Int} {x2 : Int} {x3 : Int} {x4 : Int} (h : (sT S x0 = 10 ∧ (∀ I2, I2 = up2 I x0 0 0 → (((vX10_isIn x0 x1 0 2) = 0 → Q S I2 R (-1)) ∧ (¬ ((vX10_isIn x0 x1 0 2) = 0) → ((pX10_isSlot S x0 x2) ∧ (((vX10_isSlot x0 x2) = 0 → Q S I2 R (-1)) ∧ (¬ ((vX10_isSlot x0 x2) = 0) → ((pX10_isSlot S x0 x3) ∧ (((vX10_isSlot x0 x3) = 0 → Q S I2 R (-1)) ∧ (¬ ((vX10_isSlot x0 x3) = 0) → ((pX10_isSlot S x0 x4) ∧ (((vX10_isSlot x0 x4) ≠ 0 → (∀ I47, I47 = up2 I2 x0 9 0 → ((x1 ≠ 2 → (CV G MX10_heapsRow [vR x0, vI x2, vI 1, vI 0, vI 0, vI 0] S I47 R (fun S70 I70 R70 => ((x1 ≠ 0 → (sT S70 x0 = 10 ∧ (CV G MX10_heapsRow [vR x0, vI x3, vI (w32 ((I70 x0 2) - 1)), vI 0, vI 0, vI 0] S70 I70 R70 (fun S92 I92 R92 => LX10_make_95 G x0 x4 S92 I92 R92 Q)))) ∧ (¬ (x1 ≠ 0) → (sT S70 x0 = 10 ∧ (CV G MX10_heapsRow [vR x0, vI x3, vI 1, vI 0, vI 0, vI 0] S70 I70 R70 (fun S92 I92 R92 => LX10_make_95 G x0 x4 S92 I92 R92 Q)))))))) ∧ (¬ (x1 ≠ 2) → (CV G MX10_multiplies [vR x0, vI x2, vI x3] S I47 R (fun S58 I58 R58 => LX10_make_95 G x0 x4 S58 I58 R58 Q)))))) ∧ (¬ ((vX10_isSlot x0 x4) ≠ 0) → Q S I2 R (-1))))))))))))))) : CI G MX10_make [vR x0, vI x1, vI x2, vI x3, vI x4] S I R Q := by
  show E G MX10_make 0 [(0, vR x0), (1, vI x1), (2, vI x2), (3, vI x3), (4, vI x4)] [] S I R (qI Q)
  refine e_aload_n 0 dX10_make_0 rfl ?_
  refine e_iconst dX10_make_1 (by unfold InR; decide) ?_
  have o1 := h.1
  replace h := h.2
  obtain ⟨I2, eI2⟩ : ∃ z : MI, z = up2 I x0 0 0 := ⟨_, rfl⟩
  replace h := h I2 eI2
  refine e_putI dX10_make_2 flX10_65 rfl (Or.inl rfl) o1 (eqI eI2 ?_)
  refine e_aload_n 0 dX10_make_5 rfl ?_
  refine e_iload_n 1 dX10_make_6 rfl ?_
  refine e_i2l dX10_make_7 ?_
  refine e_lconst (x := 0) dX10_make_8 ⟨by decide +kernel, by unfold InL; decide⟩ ?_
  refine e_ldc2 (x := 2) dX10_make_9 cnX10_112 (by unfold InL; decide) ?_
  refine i_VI (μ' := MX10_isIn) (ci := 9) (r := x0) (as := [vL x1, vL 0, vL 2]) (st := []) rfl dX10_make_12 mOKX10_isIn ⟨mlX10_106, imX10_isIn, seX10_isIn⟩ (by decide) (Nat.le_of_ble_eq_true rfl) rfl (Nat.le_of_ble_eq_true rfl) ⟨by decide, rfl⟩ o1 (sX10_isIn ?_)
  refine e_if_eq (tgt := 43) dX10_make_15 (by decide) (fun c => ?_) (fun c => ?_)
  · replace h := h.1 c
    refine e_iconst dX10_make_43 (by unfold InR; decide) ?_
    exact e_ireturn dX10_make_44 rfl ⟨_, rfl, h⟩
  · replace h := h.2 c
    refine e_aload_n 0 dX10_make_18 rfl ?_
    refine e_iload_n 2 dX10_make_19 rfl ?_
    have o2 := h.1
    replace h := h.2
    refine i_VI (μ' := MX10_isSlot) (ci := 9) (r := x0) (as := [vI x2]) (st := []) rfl dX10_make_20 mOKX10_isSlot ⟨mlX10_188, imX10_isSlot, seX10_isSlot⟩ (by decide) (Nat.le_of_ble_eq_true rfl) rfl (Nat.le_of_ble_eq_true rfl) ⟨by decide, rfl⟩ o1 (sX10_isSlot o2 ?_)
    refine e_if_eq (tgt := 43) dX10_make_23 (by decide) (fun c => ?_) (fun c => ?_)
    · replace h := h.1 c
      refine e_iconst dX10_make_43 (by unfold InR; decide) ?_
      exact e_ireturn dX10_make_44 rfl ⟨_, rfl, h⟩
    · replace h := h.2 c
      refine e_aload_n 0 dX10_make_26 rfl ?_
      refine e_iload_n 3 dX10_make_27 rfl ?_
      have o3 := h.1
      replace h := h.2
      refine i_VI (μ' := MX10_isSlot) (ci := 9) (r := x0) (as := [vI x3]) (st := []) rfl dX10_make_28 mOKX10_isSlot ⟨mlX10_188, imX10_isSlot, seX10_isSlot⟩ (by decide) (Nat.le_of_ble_eq_true rfl) rfl (Nat.le_of_ble_eq_true rfl) ⟨by decide, rfl⟩ o1 (sX10_isSlot o3 ?_)
      refine e_if_eq (tgt := 43) dX10_make_31 (by decide) (fun c => ?_) (fun c => ?_)
      · replace h := h.1 c
        refine e_iconst dX10_make_43 (by unfold InR; decide) ?_
        exact e_ireturn dX10_make_44 rfl ⟨_, rfl, h⟩
      · replace h := h.2 c
        refine e_aload_n 0 dX10_make_34 rfl ?_
        refine e_iload 4 dX10_make_35 rfl ?_
        have o4 := h.1
        replace h := h.2
        refine i_VI (μ' := MX10_isSlot) (ci := 9) (r := x0) (as := [vI x4]) (st := []) rfl dX10_make_37 mOKX10_isSlot ⟨mlX10_188, imX10_isSlot, seX10_isSlot⟩ (by decide) (Nat.le_of_ble_eq_true rfl) rfl (Nat.le_of_ble_eq_true rfl) ⟨by decide, rfl⟩ o1 (sX10_isSlot o4 ?_)
        refine e_if_ne (tgt := 45) dX10_make_40 (by decide) (fun c => ?_) (fun c => ?_)
        · replace h := h.1 c
          refine e_aload_n 0 dX10_make_45 rfl ?_
          refine e_iconst dX10_make_46 (by unfold InR; decide) ?_
          obtain ⟨I47, eI47⟩ : ∃ z : MI, z = up2 I2 x0 9 0 := ⟨_, rfl⟩
          replace h := h I47 eI47
          refine e_putI dX10_make_47 flX10_93 rfl (Or.inl rfl) o1 (eqI eI47 ?_)
          refine e_iload_n 1 dX10_make_50 rfl ?_
          refine e_iconst dX10_make_51 (by unfold InR; decide) ?_
          refine e_icmp_ne (tgt := 64) dX10_make_52 (by decide) (fun c => ?_) (fun c => ?_)
          · replace h := h.1 c
            refine e_aload_n 0 dX10_make_64 rfl ?_
            refine e_iload_n 2 dX10_make_65 rfl ?_
            refine e_iconst dX10_make_66 (by unfold InR; decide) ?_
            refine e_iconst dX10_make_67 (by unfold InR; decide) ?_
            refine e_iconst dX10_make_68 (by unfold InR; decide) ?_
            refine e_iconst dX10_make_69 (by unfold InR; decide) ?_
            refine i_VV (μ' := MX10_heapsRow) (ci := 9) (r := x0) (as := [vI x2, vI 1, vI 0, vI 0, vI 0]) (st := []) rfl dX10_make_70 mOKX10_heapsRow ⟨mlX10_124, imX10_heapsRow, seX10_heapsRow⟩ (by decide) (Nat.le_of_ble_eq_true rfl) rfl (Nat.le_of_ble_eq_true rfl) ⟨by decide, rfl⟩ o1 (CV.mono h ?_)
            clear h
            intro S70 I70 R70 h
            refine e_aload_n 0 dX10_make_73 rfl ?_
            refine e_iload_n 3 dX10_make_74 rfl ?_
            refine e_iload_n 1 dX10_make_75 rfl ?_
            refine e_if_ne (tgt := 83) dX10_make_76 (by decide) (fun c => ?_) (fun c => ?_)
            · replace h := h.1 c
              refine e_aload_n 0 dX10_make_83 rfl ?_
              have o5 := h.1
              replace h := h.2
              refine e_getI dX10_make_84 flX10_13 rfl o5 ?_
              refine e_iconst dX10_make_87 (by unfold InR; decide) ?_
              refine e_isub dX10_make_88 ?_
              refine e_iconst dX10_make_89 (by unfold InR; decide) ?_
              refine e_iconst dX10_make_90 (by unfold InR; decide) ?_
              refine e_iconst dX10_make_91 (by unfold InR; decide) ?_
              refine i_VV (μ' := MX10_heapsRow) (ci := 9) (r := x0) (as := [vI x3, vI (w32 ((I70 x0 2) - 1)), vI 0, vI 0, vI 0]) (st := []) rfl dX10_make_92 mOKX10_heapsRow ⟨mlX10_124, imX10_heapsRow, seX10_heapsRow⟩ (by decide) (Nat.le_of_ble_eq_true rfl) rfl (Nat.le_of_ble_eq_true rfl) ⟨by decide, rfl⟩ o5 (CV.mono h ?_)
              clear h
              intro S92 I92 R92 h
              exact e_sub (ls2 := [(0, vR x0), (4, vI x4)]) [0, 4] rfl h
            · replace h := h.2 c
              refine e_iconst dX10_make_79 (by unfold InR; decide) ?_
              refine e_goto (tgt := 89) dX10_make_80 (by decide) ?_
              refine e_iconst dX10_make_89 (by unfold InR; decide) ?_
              refine e_iconst dX10_make_90 (by unfold InR; decide) ?_
              refine e_iconst dX10_make_91 (by unfold InR; decide) ?_
              have o6 := h.1
              replace h := h.2
              refine i_VV (μ' := MX10_heapsRow) (ci := 9) (r := x0) (as := [vI x3, vI 1, vI 0, vI 0, vI 0]) (st := []) rfl dX10_make_92 mOKX10_heapsRow ⟨mlX10_124, imX10_heapsRow, seX10_heapsRow⟩ (by decide) (Nat.le_of_ble_eq_true rfl) rfl (Nat.le_of_ble_eq_true rfl) ⟨by decide, rfl⟩ o6 (CV.mono h ?_)
              clear h
              intro S92 I92 R92 h
              exact e_sub (ls2 := [(0, vR x0), (4, vI x4)]) [0, 4] rfl h
          · replace h := h.2 c
            refine e_aload_n 0 dX10_make_55 rfl ?_
            refine e_iload_n 2 dX10_make_56 rfl ?_
            refine e_iload_n 3 dX10_make_57 rfl ?_
            refine i_VV (μ' := MX10_multiplies) (ci := 9) (r := x0) (as := [vI x2, vI x3]) (st := []) rfl dX10_make_58 mOKX10_multiplies ⟨mlX10_219, imX10_multiplies, seX10_multiplies⟩ (by decide) (Nat.le_of_ble_eq_true rfl) rfl (Nat.le_of_ble_eq_true rfl) ⟨by decide, rfl⟩ o1 (CV.mono h ?_)
            clear h
            intro S58 I58 R58 h
            refine e_goto (tgt := 95) dX10_make_61 (by decide) ?_
            exact e_sub (ls2 := [(0, vR x0), (4, vI x4)]) [0, 4] rfl h
        · replace h := h.2 c
          refine e_iconst dX10_make_43 (by unfold InR; decide) ?_
          exact e_ireturn dX10_make_44 rfl ⟨_, rfl, h⟩
set_option maxRecDepth 100000 in
set_option maxHeartbeats 4000000 in
theorem bX10_make_95 {G : Gl} {S : Sh} {I : MI} {R : MR} {Q : Sh → MI → MR → Int → Prop} {x0 : Nat} {x4 : Int} (h : (sT S x0 = 10 ∧ (CI G MX10_takes [vR x0, vI x4] S I R (fun S98 I98 R98 x98_ => ((x98_ = 0 → Q S98 I98 R98 (-1)) ∧ (¬ (x98_ = 0) → (sT S98 x0 = 10 ∧ (sT S98 (R98 x0 4) = 21 ∧ (((0 : Int) ≤ x4 ∧ x4 < (sL S98 (R98 x0 4) : Int)) ∧ Q S98 I98 R98 (I98 (R98 x0 4) (Int.toNat x4))))))))))) : LX10_make_95 G x0 x4 S I R Q := by
  show E G MX10_make 95 [(0, vR x0), (4, vI x4)] [] S I R (qI Q)
  refine e_aload_n 0 dX10_make_95 rfl ?_
  refine e_iload 1 dX10_make_96 rfl ?_
  have o7 := h.1
  replace h := h.2
  refine i_VI (μ' := MX10_takes) (ci := 9) (r := x0) (as := [vI x4]) (st := []) rfl dX10_make_98 mOKX10_takes ⟨mlX10_128, imX10_takes, seX10_takes⟩ (by decide) (Nat.le_of_ble_eq_true rfl) rfl (Nat.le_of_ble_eq_true rfl) ⟨by decide, rfl⟩ o7 (CI.mono h ?_)
  clear h
  intro S98 I98 R98 x98_ h
  refine e_if_eq (tgt := 114) dX10_make_101 (by decide) (fun c => ?_) (fun c => ?_)
  · replace h := h.1 c
    refine e_iconst dX10_make_114 (by unfold InR; decide) ?_
    exact e_ireturn dX10_make_115 rfl ⟨_, rfl, h⟩
  · replace h := h.2 c
    refine e_aload_n 0 dX10_make_104 rfl ?_
    have o8 := h.1
    replace h := h.2
    refine e_getR dX10_make_105 flX10_20 rfl o8 ?_
    refine e_iload 1 dX10_make_108 rfl ?_
    have o9 := h.1
    replace h := h.2
    have o10 := h.1
    replace h := h.2
    refine e_iald dX10_make_110 o9 o10 ?_
    refine e_goto (tgt := 115) dX10_make_111 (by decide) ?_
    exact e_ireturn dX10_make_115 rfl ⟨_, rfl, h⟩

def LX10_heapsPart_7 (G : Gl) (x0 : Nat) (x1 : Int) (x2 : Int) (x3 : Int) (S : Sh) (I : MI) (R : MR) (Q : Sh → MI → MR → Prop) : Prop := E G MX10_heapsPart 7 [(0, vR x0), (1, vI x1), (2, vI x2), (3, vI x3)] [] S I R (qV Q)
def LX10_heapsPart_71 (G : Gl) (x0 : Nat) (x1 : Int) (x2 : Int) (x3 : Int) (y0 : Int) (y1 : Int) (y2 : Int) (y3 : Nat) (S : Sh) (I : MI) (R : MR) (Q : Sh → MI → MR → Prop) : Prop := E G MX10_heapsPart 71 [(0, vR x0), (1, vI x1), (2, vI x2), (3, vI x3)] [vI y0, vI y1, vI y2, vR y3] S I R (qV Q)
def LX10_heapsPart_89 (G : Gl) (x0 : Nat) (x1 : Int) (x2 : Int) (x3 : Int) (y0 : Int) (y1 : Int) (y2 : Int) (y3 : Int) (y4 : Nat) (S : Sh) (I : MI) (R : MR) (Q : Sh → MI → MR → Prop) : Prop := E G MX10_heapsPart 89 [(0, vR x0), (1, vI x1), (2, vI x2), (3, vI x3)] [vI y0, vI y1, vI y2, vI y3, vR y4] S I R (qV Q)
set_option maxRecDepth 100000 in
set_option maxHeartbeats 4000000 in
theorem bX10_heapsPart {G : Gl} {S : Sh} {I : MI} {R : MR} {Q : Sh → MI → MR → Prop} {x0 : Nat} {x1 : Int} {x2 : Int} (h : (sT S x0 = 10 ∧ (∀ I2, I2 = up2 I x0 9 0 → LX10_heapsPart_7 G x0 x1 x2 0 S I2 R Q))) : CV G MX10_heapsPart [vR x0, vI x1, vI x2] S I R Q := by
  show E G MX10_heapsPart 0 [(0, vR x0), (1, vI x1), (2, vI x2)] [] S I R (qV Q)
  refine e_aload_n 0 dX10_heapsPart_0 rfl ?_
  refine e_iconst dX10_heapsPart_1 (by unfold InR; decide) ?_
  have o1 := h.1
  replace h := h.2
  obtain ⟨I2, eI2⟩ : ∃ z : MI, z = up2 I x0 9 0 := ⟨_, rfl⟩
  replace h := h I2 eI2
  refine e_putI dX10_heapsPart_2 flX10_93 rfl (Or.inl rfl) o1 (eqI eI2 ?_)
  refine e_iconst dX10_heapsPart_5 (by unfold InR; decide) ?_
  refine e_istore_n (ls2 := [(3, vI 0), (0, vR x0), (1, vI x1), (2, vI x2)]) dX10_heapsPart_6 (by decide) rfl ?_
  exact e_sub (ls2 := [(0, vR x0), (1, vI x1), (2, vI x2), (3, vI 0)]) [1, 2, 3, 0] rfl h
set_option maxRecDepth 100000 in
set_option maxHeartbeats 4000000 in
theorem bX10_heapsPart_7 {G : Gl} {S : Sh} {I : MI} {R : MR} {Q : Sh → MI → MR → Prop} {x0 : Nat} {x1 : Int} {x2 : Int} {x3 : Int} (h : (sT S x0 = 10 ∧ (sT S (R x0 4) = 21 ∧ (((0 : Int) ≤ x1 ∧ x1 < (sL S (R x0 4) : Int)) ∧ (((I (R x0 4) (Int.toNat x1)) ≤ x3 → Q S I R) ∧ (¬ ((I (R x0 4) (Int.toNat x1)) ≤ x3) → ((pX10_power S R x0 x1 x3 x2) ∧ (((vX10_power I R x0 x1 x3 x2) ≤ 0 → LX10_heapsPart_7 G x0 x1 x2 (w32 (x3 + 1)) S I R Q) ∧ (¬ ((vX10_power I R x0 x1 x3 x2) ≤ 0) → (sT S (R x0 5) = 21 ∧ (((0 : Int) ≤ (vX10_at x0 x1 x3) ∧ (vX10_at x0 x1 x3) < (sL S (R x0 5) : Int)) ∧ ((I x0 2) ≠ 0 ∧ ((pX10_power S R x0 x1 x3 0) ∧ ((x2 ≠ 0 → LX10_heapsPart_71 G x0 x1 x2 x3 0 (vX10_power I R x0 x1 x3 0) (w32 (lrem (w64 ((I (R x0 5) (Int.toNat (vX10_at x0 x1 x3))) * (vX10_power I R x0 x1 x3 x2))) (I x0 2))) x0 S I R Q) ∧ (¬ (x2 ≠ 0) → LX10_heapsPart_71 G x0 x1 x2 x3 1 (vX10_power I R x0 x1 x3 0) (w32 (lrem (w64 ((I (R x0 5) (Int.toNat (vX10_at x0 x1 x3))) * (vX10_power I R x0 x1 x3 x2))) (I x0 2))) x0 S I R Q))))))))))))))) : LX10_heapsPart_7 G x0 x1 x2 x3 S I R Q := by
  show E G MX10_heapsPart 7 [(0, vR x0), (1, vI x1), (2, vI x2), (3, vI x3)] [] S I R (qV Q)
  refine e_iload_n 3 dX10_heapsPart_7 rfl ?_
  refine e_aload_n 0 dX10_heapsPart_8 rfl ?_
  have o2 := h.1
  replace h := h.2
  refine e_getR dX10_heapsPart_9 flX10_20 rfl o2 ?_
  refine e_iload_n 1 dX10_heapsPart_12 rfl ?_
  have o3 := h.1
  replace h := h.2
  have o4 := h.1
  replace h := h.2
  refine e_iald dX10_heapsPart_13 o3 o4 ?_
  refine e_icmp_ge (tgt := 117) dX10_heapsPart_14 (by decide) (fun c => ?_) (fun c => ?_)
  · replace h := h.1 c
    exact e_return dX10_heapsPart_117 rfl ⟨rfl, h⟩
  · replace h := h.2 c
    refine e_aload_n 0 dX10_heapsPart_17 rfl ?_
    refine e_iload_n 1 dX10_heapsPart_18 rfl ?_
    refine e_iload_n 3 dX10_heapsPart_19 rfl ?_
    refine e_iload_n 2 dX10_heapsPart_20 rfl ?_
    have o5 := h.1
    replace h := h.2
    refine i_VI (μ' := MX10_power) (ci := 9) (r := x0) (as := [vI x1, vI x3, vI x2]) (st := []) rfl dX10_heapsPart_21 mOKX10_power ⟨mlX10_72, imX10_power, seX10_power⟩ (by decide) (Nat.le_of_ble_eq_true rfl) rfl (Nat.le_of_ble_eq_true rfl) ⟨by decide, rfl⟩ o2 (sX10_power o5 ?_)
    refine e_istore (ls2 := [(4, vI (vX10_power I R x0 x1 x3 x2)), (0, vR x0), (1, vI x1), (2, vI x2), (3, vI x3)]) dX10_heapsPart_24 (by decide) rfl ?_
    refine e_iload 0 dX10_heapsPart_26 rfl ?_
    refine e_if_le (tgt := 111) dX10_heapsPart_28 (by decide) (fun c => ?_) (fun c => ?_)
    · replace h := h.1 c
      refine e_iinc (ls2 := [(3, vI (w32 (x3 + 1))), (4, vI (vX10_power I R x0 x1 x3 x2)), (0, vR x0), (1, vI x1), (2, vI x2)]) 4 dX10_heapsPart_111 rfl (by decide) rfl ?_
      refine e_goto (tgt := 7) dX10_heapsPart_114 (by decide) ?_
      exact e_sub (ls2 := [(0, vR x0), (1, vI x1), (2, vI x2), (3, vI (w32 (x3 + 1)))]) [2, 3, 4, 0] rfl h
    · replace h := h.2 c
      refine e_aload_n 1 dX10_heapsPart_31 rfl ?_
      refine e_aload_n 1 dX10_heapsPart_32 rfl ?_
      refine e_getR dX10_heapsPart_33 flX10_23 rfl o2 ?_
      refine e_aload_n 1 dX10_heapsPart_36 rfl ?_
      refine e_iload_n 2 dX10_heapsPart_37 rfl ?_
      refine e_iload_n 4 dX10_heapsPart_38 rfl ?_
      refine i_VI (μ' := MX10_at) (ci := 9) (r := x0) (as := [vI x1, vI x3]) (st := [vR (R x0 5), vR x0]) rfl dX10_heapsPart_39 mOKX10_at ⟨mlX10_68, imX10_at, seX10_at⟩ (by decide) (Nat.le_of_ble_eq_true rfl) rfl (Nat.le_of_ble_eq_true rfl) ⟨by decide, rfl⟩ o2 (sX10_at ?_)
      have o6 := h.1
      replace h := h.2
      have o7 := h.1
      replace h := h.2
      refine e_iald dX10_heapsPart_42 o6 o7 ?_
      refine e_i2l dX10_heapsPart_43 ?_
      refine e_iload 0 dX10_heapsPart_44 rfl ?_
      refine e_i2l dX10_heapsPart_46 ?_
      refine e_lmul dX10_heapsPart_47 ?_
      refine e_aload_n 1 dX10_heapsPart_48 rfl ?_
      refine e_getI dX10_heapsPart_49 flX10_13 rfl o2 ?_
      refine e_i2l dX10_heapsPart_52 ?_
      have o8 := h.1
      replace h := h.2
      refine e_lrem dX10_heapsPart_53 o8 ?_
      refine e_l2i dX10_heapsPart_54 ?_
      refine e_aload_n 1 dX10_heapsPart_55 rfl ?_
      refine e_iload_n 2 dX10_heapsPart_56 rfl ?_
      refine e_iload_n 4 dX10_heapsPart_57 rfl ?_
      refine e_iconst dX10_heapsPart_58 (by unfold InR; decide) ?_
      have o9 := h.1
      replace h := h.2
      refine i_VI (μ' := MX10_power) (ci := 9) (r := x0) (as := [vI x1, vI x3, vI 0]) (st := [vI (w32 (lrem (w64 ((I (R x0 5) (Int.toNat (vX10_at x0 x1 x3))) * (vX10_power I R x0 x1 x3 x2))) (I x0 2))), vR x0]) rfl dX10_heapsPart_59 mOKX10_power ⟨mlX10_72, imX10_power, seX10_power⟩ (by decide) (Nat.le_of_ble_eq_true rfl) rfl (Nat.le_of_ble_eq_true rfl) ⟨by decide, rfl⟩ o2 (sX10_power o9 ?_)
      refine e_iload_n 3 dX10_heapsPart_62 rfl ?_
      refine e_if_ne (tgt := 70) dX10_heapsPart_63 (by decide) (fun c => ?_) (fun c => ?_)
      · replace h := h.1 c
        refine e_iconst dX10_heapsPart_70 (by unfold InR; decide) ?_
        exact e_sub (ls2 := [(0, vR x0), (1, vI x1), (2, vI x2), (3, vI x3)]) [1, 2, 3, 4] rfl h
      · replace h := h.2 c
        refine e_iconst dX10_heapsPart_66 (by unfold InR; decide) ?_
        refine e_goto (tgt := 71) dX10_heapsPart_67 (by decide) ?_
        exact e_sub (ls2 := [(0, vR x0), (1, vI x1), (2, vI x2), (3, vI x3)]) [1, 2, 3, 4] rfl h
set_option maxRecDepth 100000 in
set_option maxHeartbeats 4000000 in
theorem bX10_heapsPart_71 {G : Gl} {S : Sh} {I : MI} {R : MR} {Q : Sh → MI → MR → Prop} {x0 : Nat} {x1 : Int} {x2 : Int} {x3 : Int} {y0 : Int} {y1 : Int} {y2 : Int} {y3 : Nat} (h : (sT S x0 = 10 ∧ ((pX10_power S R x0 x1 x3 1) ∧ ((x2 ≠ 1 → LX10_heapsPart_89 G x0 x1 x2 x3 0 (vX10_power I R x0 x1 x3 1) (w32 (y1 - y0)) y2 y3 S I R Q) ∧ (¬ (x2 ≠ 1) → LX10_heapsPart_89 G x0 x1 x2 x3 1 (vX10_power I R x0 x1 x3 1) (w32 (y1 - y0)) y2 y3 S I R Q))))) : LX10_heapsPart_71 G x0 x1 x2 x3 y0 y1 y2 y3 S I R Q := by
  show E G MX10_heapsPart 71 [(0, vR x0), (1, vI x1), (2, vI x2), (3, vI x3)] [vI y0, vI y1, vI y2, vR y3] S I R (qV Q)
  refine e_isub dX10_heapsPart_71 ?_
  refine e_aload_n 0 dX10_heapsPart_72 rfl ?_
  refine e_iload_n 1 dX10_heapsPart_73 rfl ?_
  refine e_iload_n 3 dX10_heapsPart_74 rfl ?_
  refine e_iconst dX10_heapsPart_75 (by unfold InR; decide) ?_
  have o10 := h.1
  replace h := h.2
  have o11 := h.1
  replace h := h.2
  refine i_VI (μ' := MX10_power) (ci := 9) (r := x0) (as := [vI x1, vI x3, vI 1]) (st := [vI (w32 (y1 - y0)), vI y2, vR y3]) rfl dX10_heapsPart_76 mOKX10_power ⟨mlX10_72, imX10_power, seX10_power⟩ (by decide) (Nat.le_of_ble_eq_true rfl) rfl (Nat.le_of_ble_eq_true rfl) ⟨by decide, rfl⟩ o10 (sX10_power o11 ?_)
  refine e_iload_n 2 dX10_heapsPart_79 rfl ?_
  refine e_iconst dX10_heapsPart_80 (by unfold InR; decide) ?_
  refine e_icmp_ne (tgt := 88) dX10_heapsPart_81 (by decide) (fun c => ?_) (fun c => ?_)
  · replace h := h.1 c
    refine e_iconst dX10_heapsPart_88 (by unfold InR; decide) ?_
    exact e_sub (ls2 := [(0, vR x0), (1, vI x1), (2, vI x2), (3, vI x3)]) [0, 1, 2, 3] rfl h
  · replace h := h.2 c
    refine e_iconst dX10_heapsPart_84 (by unfold InR; decide) ?_
    refine e_goto (tgt := 89) dX10_heapsPart_85 (by decide) ?_
    exact e_sub (ls2 := [(0, vR x0), (1, vI x1), (2, vI x2), (3, vI x3)]) [0, 1, 2, 3] rfl h
set_option maxRecDepth 100000 in
set_option maxHeartbeats 4000000 in
theorem bX10_heapsPart_89 {G : Gl} {S : Sh} {I : MI} {R : MR} {Q : Sh → MI → MR → Prop} {x0 : Nat} {x1 : Int} {x2 : Int} {x3 : Int} {y0 : Int} {y1 : Int} {y2 : Int} {y3 : Int} {y4 : Nat} (h : (sT S x0 = 10 ∧ ((pX10_power S R x0 x1 x3 2) ∧ ((x2 ≠ 2 → (sT S y4 = 10 ∧ (CV G MX10_heaps [vR y4, vI y3, vI y2, vI (w32 (y1 - y0)), vI (w32 ((vX10_power I R x0 x1 x3 2) - 0))] S I R (fun S108 I108 R108 => LX10_heapsPart_7 G x0 x1 x2 (w32 (x3 + 1)) S108 I108 R108 Q)))) ∧ (¬ (x2 ≠ 2) → (sT S y4 = 10 ∧ (CV G MX10_heaps [vR y4, vI y3, vI y2, vI (w32 (y1 - y0)), vI (w32 ((vX10_power I R x0 x1 x3 2) - 1))] S I R (fun S108 I108 R108 => LX10_heapsPart_7 G x0 x1 x2 (w32 (x3 + 1)) S108 I108 R108 Q)))))))) : LX10_heapsPart_89 G x0 x1 x2 x3 y0 y1 y2 y3 y4 S I R Q := by
  show E G MX10_heapsPart 89 [(0, vR x0), (1, vI x1), (2, vI x2), (3, vI x3)] [vI y0, vI y1, vI y2, vI y3, vR y4] S I R (qV Q)
  refine e_isub dX10_heapsPart_89 ?_
  refine e_aload_n 0 dX10_heapsPart_90 rfl ?_
  refine e_iload_n 1 dX10_heapsPart_91 rfl ?_
  refine e_iload_n 3 dX10_heapsPart_92 rfl ?_
  refine e_iconst dX10_heapsPart_93 (by unfold InR; decide) ?_
  have o12 := h.1
  replace h := h.2
  have o13 := h.1
  replace h := h.2
  refine i_VI (μ' := MX10_power) (ci := 9) (r := x0) (as := [vI x1, vI x3, vI 2]) (st := [vI (w32 (y1 - y0)), vI y2, vI y3, vR y4]) rfl dX10_heapsPart_94 mOKX10_power ⟨mlX10_72, imX10_power, seX10_power⟩ (by decide) (Nat.le_of_ble_eq_true rfl) rfl (Nat.le_of_ble_eq_true rfl) ⟨by decide, rfl⟩ o12 (sX10_power o13 ?_)
  refine e_iload_n 2 dX10_heapsPart_97 rfl ?_
  refine e_iconst dX10_heapsPart_98 (by unfold InR; decide) ?_
  refine e_icmp_ne (tgt := 106) dX10_heapsPart_99 (by decide) (fun c => ?_) (fun c => ?_)
  · replace h := h.1 c
    refine e_iconst dX10_heapsPart_106 (by unfold InR; decide) ?_
    refine e_isub dX10_heapsPart_107 ?_
    have o14 := h.1
    replace h := h.2
    refine i_VV (μ' := MX10_heaps) (ci := 9) (r := y4) (as := [vI y3, vI y2, vI (w32 (y1 - y0)), vI (w32 ((vX10_power I R x0 x1 x3 2) - 0))]) (st := []) rfl dX10_heapsPart_108 mOKX10_heaps ⟨mlX10_100, imX10_heaps, seX10_heaps⟩ (by decide) (Nat.le_of_ble_eq_true rfl) rfl (Nat.le_of_ble_eq_true rfl) ⟨by decide, rfl⟩ o14 (CV.mono h ?_)
    clear h
    intro S108 I108 R108 h
    refine e_iinc (ls2 := [(3, vI (w32 (x3 + 1))), (0, vR x0), (1, vI x1), (2, vI x2)]) 3 dX10_heapsPart_111 rfl (by decide) rfl ?_
    refine e_goto (tgt := 7) dX10_heapsPart_114 (by decide) ?_
    exact e_sub (ls2 := [(0, vR x0), (1, vI x1), (2, vI x2), (3, vI (w32 (x3 + 1)))]) [1, 2, 3, 0] rfl h
  · replace h := h.2 c
    refine e_iconst dX10_heapsPart_102 (by unfold InR; decide) ?_
    refine e_goto (tgt := 107) dX10_heapsPart_103 (by decide) ?_
    refine e_isub dX10_heapsPart_107 ?_
    have o15 := h.1
    replace h := h.2
    refine i_VV (μ' := MX10_heaps) (ci := 9) (r := y4) (as := [vI y3, vI y2, vI (w32 (y1 - y0)), vI (w32 ((vX10_power I R x0 x1 x3 2) - 1))]) (st := []) rfl dX10_heapsPart_108 mOKX10_heaps ⟨mlX10_100, imX10_heaps, seX10_heaps⟩ (by decide) (Nat.le_of_ble_eq_true rfl) rfl (Nat.le_of_ble_eq_true rfl) ⟨by decide, rfl⟩ o15 (CV.mono h ?_)
    clear h
    intro S108 I108 R108 h
    refine e_iinc (ls2 := [(3, vI (w32 (x3 + 1))), (0, vR x0), (1, vI x1), (2, vI x2)]) 3 dX10_heapsPart_111 rfl (by decide) rfl ?_
    refine e_goto (tgt := 7) dX10_heapsPart_114 (by decide) ?_
    exact e_sub (ls2 := [(0, vR x0), (1, vI x1), (2, vI x2), (3, vI (w32 (x3 + 1)))]) [1, 2, 3, 0] rfl h

def LX10_heapsLow_7 (G : Gl) (x0 : Nat) (x1 : Int) (x2 : Int) (S : Sh) (I : MI) (R : MR) (Q : Sh → MI → MR → Prop) : Prop := E G MX10_heapsLow 7 [(0, vR x0), (1, vI x1), (2, vI x2)] [] S I R (qV Q)
set_option maxRecDepth 100000 in
set_option maxHeartbeats 4000000 in
theorem bX10_heapsLow {G : Gl} {S : Sh} {I : MI} {R : MR} {Q : Sh → MI → MR → Prop} {x0 : Nat} {x1 : Int} (h : (sT S x0 = 10 ∧ (∀ I2, I2 = up2 I x0 9 0 → LX10_heapsLow_7 G x0 x1 0 S I2 R Q))) : CV G MX10_heapsLow [vR x0, vI x1] S I R Q := by
  show E G MX10_heapsLow 0 [(0, vR x0), (1, vI x1)] [] S I R (qV Q)
  refine e_aload_n 0 dX10_heapsLow_0 rfl ?_
  refine e_iconst dX10_heapsLow_1 (by unfold InR; decide) ?_
  have o1 := h.1
  replace h := h.2
  obtain ⟨I2, eI2⟩ : ∃ z : MI, z = up2 I x0 9 0 := ⟨_, rfl⟩
  replace h := h I2 eI2
  refine e_putI dX10_heapsLow_2 flX10_93 rfl (Or.inl rfl) o1 (eqI eI2 ?_)
  refine e_iconst dX10_heapsLow_5 (by unfold InR; decide) ?_
  refine e_istore_n (ls2 := [(2, vI 0), (0, vR x0), (1, vI x1)]) dX10_heapsLow_6 (by decide) rfl ?_
  exact e_sub (ls2 := [(0, vR x0), (1, vI x1), (2, vI 0)]) [1, 2, 0] rfl h
set_option maxRecDepth 100000 in
set_option maxHeartbeats 4000000 in
theorem bX10_heapsLow_7 {G : Gl} {S : Sh} {I : MI} {R : MR} {Q : Sh → MI → MR → Prop} {x0 : Nat} {x1 : Int} {x2 : Int} (h : (sT S x0 = 10 ∧ (sT S (R x0 4) = 21 ∧ (((0 : Int) ≤ x1 ∧ x1 < (sL S (R x0 4) : Int)) ∧ (((I (R x0 4) (Int.toNat x1)) ≤ x2 → Q S I R) ∧ (¬ ((I (R x0 4) (Int.toNat x1)) ≤ x2) → ((pX10_degree S I R x0 x1 x2) ∧ ((pX10_low S I R x0 x1) ∧ (((vX10_degree I R x0 x1 x2) ≠ (vX10_low I R x0 x1) → LX10_heapsLow_7 G x0 x1 (w32 (x2 + 1)) S I R Q) ∧ (¬ ((vX10_degree I R x0 x1 x2) ≠ (vX10_low I R x0 x1)) → (sT S (R x0 5) = 21 ∧ (((0 : Int) ≤ (vX10_at x0 x1 x2) ∧ (vX10_at x0 x1 x2) < (sL S (R x0 5) : Int)) ∧ ((pX10_power S R x0 x1 x2 0) ∧ ((pX10_power S R x0 x1 x2 1) ∧ ((pX10_power S R x0 x1 x2 2) ∧ (CV G MX10_heaps [vR x0, vI (I (R x0 5) (Int.toNat (vX10_at x0 x1 x2))), vI (vX10_power I R x0 x1 x2 0), vI (vX10_power I R x0 x1 x2 1), vI (vX10_power I R x0 x1 x2 2)] S I R (fun S64 I64 R64 => LX10_heapsLow_7 G x0 x1 (w32 (x2 + 1)) S64 I64 R64 Q))))))))))))))))) : LX10_heapsLow_7 G x0 x1 x2 S I R Q := by
  show E G MX10_heapsLow 7 [(0, vR x0), (1, vI x1), (2, vI x2)] [] S I R (qV Q)
  refine e_iload_n 2 dX10_heapsLow_7 rfl ?_
  refine e_aload_n 0 dX10_heapsLow_8 rfl ?_
  have o2 := h.1
  replace h := h.2
  refine e_getR dX10_heapsLow_9 flX10_20 rfl o2 ?_
  refine e_iload_n 1 dX10_heapsLow_12 rfl ?_
  have o3 := h.1
  replace h := h.2
  have o4 := h.1
  replace h := h.2
  refine e_iald dX10_heapsLow_13 o3 o4 ?_
  refine e_icmp_ge (tgt := 73) dX10_heapsLow_14 (by decide) (fun c => ?_) (fun c => ?_)
  · replace h := h.1 c
    exact e_return dX10_heapsLow_73 rfl ⟨rfl, h⟩
  · replace h := h.2 c
    refine e_aload_n 0 dX10_heapsLow_17 rfl ?_
    refine e_iload_n 1 dX10_heapsLow_18 rfl ?_
    refine e_iload_n 2 dX10_heapsLow_19 rfl ?_
    have o5 := h.1
    replace h := h.2
    refine i_VI (μ' := MX10_degree) (ci := 9) (r := x0) (as := [vI x1, vI x2]) (st := []) rfl dX10_heapsLow_20 mOKX10_degree ⟨mlX10_79, imX10_degree, seX10_degree⟩ (by decide) (Nat.le_of_ble_eq_true rfl) rfl (Nat.le_of_ble_eq_true rfl) ⟨by decide, rfl⟩ o2 (sX10_degree o5 ?_)
    refine e_aload_n 0 dX10_heapsLow_23 rfl ?_
    refine e_iload_n 1 dX10_heapsLow_24 rfl ?_
    have o6 := h.1
    replace h := h.2
    refine i_VI (μ' := MX10_low) (ci := 9) (r := x0) (as := [vI x1]) (st := [vI (vX10_degree I R x0 x1 x2)]) rfl dX10_heapsLow_25 mOKX10_low ⟨mlX10_86, imX10_low, seX10_low⟩ (by decide) (Nat.le_of_ble_eq_true rfl) rfl (Nat.le_of_ble_eq_true rfl) ⟨by decide, rfl⟩ o2 (sX10_low o6 ?_)
    refine e_icmp_ne (tgt := 67) dX10_heapsLow_28 (by decide) (fun c => ?_) (fun c => ?_)
    · replace h := h.1 c
      refine e_iinc (ls2 := [(2, vI (w32 (x2 + 1))), (0, vR x0), (1, vI x1)]) 2 dX10_heapsLow_67 rfl (by decide) rfl ?_
      refine e_goto (tgt := 7) dX10_heapsLow_70 (by decide) ?_
      exact e_sub (ls2 := [(0, vR x0), (1, vI x1), (2, vI (w32 (x2 + 1)))]) [1, 2, 0] rfl h
    · replace h := h.2 c
      refine e_aload_n 0 dX10_heapsLow_31 rfl ?_
      refine e_aload_n 0 dX10_heapsLow_32 rfl ?_
      refine e_getR dX10_heapsLow_33 flX10_23 rfl o2 ?_
      refine e_aload_n 0 dX10_heapsLow_36 rfl ?_
      refine e_iload_n 1 dX10_heapsLow_37 rfl ?_
      refine e_iload_n 2 dX10_heapsLow_38 rfl ?_
      refine i_VI (μ' := MX10_at) (ci := 9) (r := x0) (as := [vI x1, vI x2]) (st := [vR (R x0 5), vR x0]) rfl dX10_heapsLow_39 mOKX10_at ⟨mlX10_68, imX10_at, seX10_at⟩ (by decide) (Nat.le_of_ble_eq_true rfl) rfl (Nat.le_of_ble_eq_true rfl) ⟨by decide, rfl⟩ o2 (sX10_at ?_)
      have o7 := h.1
      replace h := h.2
      have o8 := h.1
      replace h := h.2
      refine e_iald dX10_heapsLow_42 o7 o8 ?_
      refine e_aload_n 0 dX10_heapsLow_43 rfl ?_
      refine e_iload_n 1 dX10_heapsLow_44 rfl ?_
      refine e_iload_n 2 dX10_heapsLow_45 rfl ?_
      refine e_iconst dX10_heapsLow_46 (by unfold InR; decide) ?_
      have o9 := h.1
      replace h := h.2
      refine i_VI (μ' := MX10_power) (ci := 9) (r := x0) (as := [vI x1, vI x2, vI 0]) (st := [vI (I (R x0 5) (Int.toNat (vX10_at x0 x1 x2))), vR x0]) rfl dX10_heapsLow_47 mOKX10_power ⟨mlX10_72, imX10_power, seX10_power⟩ (by decide) (Nat.le_of_ble_eq_true rfl) rfl (Nat.le_of_ble_eq_true rfl) ⟨by decide, rfl⟩ o2 (sX10_power o9 ?_)
      refine e_aload_n 0 dX10_heapsLow_50 rfl ?_
      refine e_iload_n 1 dX10_heapsLow_51 rfl ?_
      refine e_iload_n 2 dX10_heapsLow_52 rfl ?_
      refine e_iconst dX10_heapsLow_53 (by unfold InR; decide) ?_
      have o10 := h.1
      replace h := h.2
      refine i_VI (μ' := MX10_power) (ci := 9) (r := x0) (as := [vI x1, vI x2, vI 1]) (st := [vI (vX10_power I R x0 x1 x2 0), vI (I (R x0 5) (Int.toNat (vX10_at x0 x1 x2))), vR x0]) rfl dX10_heapsLow_54 mOKX10_power ⟨mlX10_72, imX10_power, seX10_power⟩ (by decide) (Nat.le_of_ble_eq_true rfl) rfl (Nat.le_of_ble_eq_true rfl) ⟨by decide, rfl⟩ o2 (sX10_power o10 ?_)
      refine e_aload_n 0 dX10_heapsLow_57 rfl ?_
      refine e_iload_n 1 dX10_heapsLow_58 rfl ?_
      refine e_iload_n 2 dX10_heapsLow_59 rfl ?_
      refine e_iconst dX10_heapsLow_60 (by unfold InR; decide) ?_
      have o11 := h.1
      replace h := h.2
      refine i_VI (μ' := MX10_power) (ci := 9) (r := x0) (as := [vI x1, vI x2, vI 2]) (st := [vI (vX10_power I R x0 x1 x2 1), vI (vX10_power I R x0 x1 x2 0), vI (I (R x0 5) (Int.toNat (vX10_at x0 x1 x2))), vR x0]) rfl dX10_heapsLow_61 mOKX10_power ⟨mlX10_72, imX10_power, seX10_power⟩ (by decide) (Nat.le_of_ble_eq_true rfl) rfl (Nat.le_of_ble_eq_true rfl) ⟨by decide, rfl⟩ o2 (sX10_power o11 ?_)
      refine i_VV (μ' := MX10_heaps) (ci := 9) (r := x0) (as := [vI (I (R x0 5) (Int.toNat (vX10_at x0 x1 x2))), vI (vX10_power I R x0 x1 x2 0), vI (vX10_power I R x0 x1 x2 1), vI (vX10_power I R x0 x1 x2 2)]) (st := []) rfl dX10_heapsLow_64 mOKX10_heaps ⟨mlX10_100, imX10_heaps, seX10_heaps⟩ (by decide) (Nat.le_of_ble_eq_true rfl) rfl (Nat.le_of_ble_eq_true rfl) ⟨by decide, rfl⟩ o2 (CV.mono h ?_)
      clear h
      intro S64 I64 R64 h
      refine e_iinc (ls2 := [(2, vI (w32 (x2 + 1))), (0, vR x0), (1, vI x1)]) 2 dX10_heapsLow_67 rfl (by decide) rfl ?_
      refine e_goto (tgt := 7) dX10_heapsLow_70 (by decide) ?_
      exact e_sub (ls2 := [(0, vR x0), (1, vI x1), (2, vI (w32 (x2 + 1)))]) [1, 2, 0] rfl h

def LX10_part_45 (G : Gl) (x0 : Nat) (x1 : Int) (x2 : Int) (x3 : Int) (S : Sh) (I : MI) (R : MR) (Q : Sh → MI → MR → Int → Prop) : Prop := E G MX10_part 45 [(0, vR x0), (1, vI x1), (2, vI x2), (3, vI x3)] [] S I R (qI Q)
def LX10_part_64 (G : Gl) (x0 : Nat) (x3 : Int) (S : Sh) (I : MI) (R : MR) (Q : Sh → MI → MR → Int → Prop) : Prop := E G MX10_part 64 [(0, vR x0), (3, vI x3)] [] S I R (qI Q)
set_option maxRecDepth 100000 in
set_option maxHeartbeats 4000000 in
theorem bX10_part {G : Gl} {S : Sh} {I : MI} {R : MR} {Q : Sh → MI → MR → Int → Prop} {x0 : Nat} {x1 : Int} {x2 : Int} {x3 : Int} (h : (sT S x0 = 10 ∧ (∀ I2, I2 = up2 I x0 0 0 → ((pX10_isSlot S x0 x1) ∧ (((vX10_isSlot x0 x1) = 0 → Q S I2 R (-1)) ∧ (¬ ((vX10_isSlot x0 x1) = 0) → ((pX10_isSlot S x0 x3) ∧ (((vX10_isSlot x0 x3) = 0 → Q S I2 R (-1)) ∧ (¬ ((vX10_isSlot x0 x3) = 0) → ((x2 = 3 → LX10_part_45 G x0 x1 x2 x3 S I2 R Q) ∧ (¬ (x2 = 3) → (((vX10_isIn x0 x2 0 (w64 ((I2 x0 1) - 1))) ≠ 0 → LX10_part_45 G x0 x1 x2 x3 S I2 R Q) ∧ (¬ ((vX10_isIn x0 x2 0 (w64 ((I2 x0 1) - 1))) ≠ 0) → Q S I2 R (-1)))))))))))))) : CI G MX10_part [vR x0, vI x1, vI x2, vI x3] S I R Q := by
  show E G MX10_part 0 [(0, vR x0), (1, vI x1), (2, vI x2), (3, vI x3)] [] S I R (qI Q)
  refine e_aload_n 0 dX10_part_0 rfl ?_
  refine e_iconst dX10_part_1 (by unfold InR; decide) ?_
  have o1 := h.1
  replace h := h.2
  obtain ⟨I2, eI2⟩ : ∃ z : MI, z = up2 I x0 0 0 := ⟨_, rfl⟩
  replace h := h I2 eI2
  refine e_putI dX10_part_2 flX10_65 rfl (Or.inl rfl) o1 (eqI eI2 ?_)
  refine e_aload_n 0 dX10_part_5 rfl ?_
  refine e_iload_n 1 dX10_part_6 rfl ?_
  have o2 := h.1
  replace h := h.2
  refine i_VI (μ' := MX10_isSlot) (ci := 9) (r := x0) (as := [vI x1]) (st := []) rfl dX10_part_7 mOKX10_isSlot ⟨mlX10_188, imX10_isSlot, seX10_isSlot⟩ (by decide) (Nat.le_of_ble_eq_true rfl) rfl (Nat.le_of_ble_eq_true rfl) ⟨by decide, rfl⟩ o1 (sX10_isSlot o2 ?_)
  refine e_if_eq (tgt := 43) dX10_part_10 (by decide) (fun c => ?_) (fun c => ?_)
  · replace h := h.1 c
    refine e_iconst dX10_part_43 (by unfold InR; decide) ?_
    exact e_ireturn dX10_part_44 rfl ⟨_, rfl, h⟩
  · replace h := h.2 c
    refine e_aload_n 0 dX10_part_13 rfl ?_
    refine e_iload_n 3 dX10_part_14 rfl ?_
    have o3 := h.1
    replace h := h.2
    refine i_VI (μ' := MX10_isSlot) (ci := 9) (r := x0) (as := [vI x3]) (st := []) rfl dX10_part_15 mOKX10_isSlot ⟨mlX10_188, imX10_isSlot, seX10_isSlot⟩ (by decide) (Nat.le_of_ble_eq_true rfl) rfl (Nat.le_of_ble_eq_true rfl) ⟨by decide, rfl⟩ o1 (sX10_isSlot o3 ?_)
    refine e_if_eq (tgt := 43) dX10_part_18 (by decide) (fun c => ?_) (fun c => ?_)
    · replace h := h.1 c
      refine e_iconst dX10_part_43 (by unfold InR; decide) ?_
      exact e_ireturn dX10_part_44 rfl ⟨_, rfl, h⟩
    · replace h := h.2 c
      refine e_iload_n 2 dX10_part_21 rfl ?_
      refine e_iconst dX10_part_22 (by unfold InR; decide) ?_
      refine e_icmp_eq (tgt := 45) dX10_part_23 (by decide) (fun c => ?_) (fun c => ?_)
      · replace h := h.1 c
        exact e_sub (ls2 := [(0, vR x0), (1, vI x1), (2, vI x2), (3, vI x3)]) [0, 1, 2, 3] rfl h
      · replace h := h.2 c
        refine e_aload_n 0 dX10_part_26 rfl ?_
        refine e_iload_n 2 dX10_part_27 rfl ?_
        refine e_i2l dX10_part_28 ?_
        refine e_lconst (x := 0) dX10_part_29 ⟨by decide +kernel, by unfold InL; decide⟩ ?_
        refine e_aload_n 0 dX10_part_30 rfl ?_
        refine e_getI dX10_part_31 flX10_7 rfl o1 ?_
        refine e_i2l dX10_part_34 ?_
        refine e_lconst (x := 1) dX10_part_35 ⟨by decide +kernel, by unfold InL; decide⟩ ?_
        refine e_lsub dX10_part_36 ?_
        refine i_VI (μ' := MX10_isIn) (ci := 9) (r := x0) (as := [vL x2, vL 0, vL (w64 ((I2 x0 1) - 1))]) (st := []) rfl dX10_part_37 mOKX10_isIn ⟨mlX10_106, imX10_isIn, seX10_isIn⟩ (by decide) (Nat.le_of_ble_eq_true rfl) rfl (Nat.le_of_ble_eq_true rfl) ⟨by decide, rfl⟩ o1 (sX10_isIn ?_)
        refine e_if_ne (tgt := 45) dX10_part_40 (by decide) (fun c => ?_) (fun c => ?_)
        · replace h := h.1 c
          exact e_sub (ls2 := [(0, vR x0), (1, vI x1), (2, vI x2), (3, vI x3)]) [0, 1, 2, 3] rfl h
        · replace h := h.2 c
          refine e_iconst dX10_part_43 (by unfold InR; decide) ?_
          exact e_ireturn dX10_part_44 rfl ⟨_, rfl, h⟩
set_option maxRecDepth 100000 in
set_option maxHeartbeats 4000000 in
theorem bX10_part_45 {G : Gl} {S : Sh} {I : MI} {R : MR} {Q : Sh → MI → MR → Int → Prop} {x0 : Nat} {x1 : Int} {x2 : Int} {x3 : Int} (h : ((x2 ≠ 3 → (sT S x0 = 10 ∧ (CV G MX10_heapsPart [vR x0, vI x1, vI x2] S I R (fun S61 I61 R61 => LX10_part_64 G x0 x3 S61 I61 R61 Q)))) ∧ (¬ (x2 ≠ 3) → (sT S x0 = 10 ∧ (CV G MX10_heapsLow [vR x0, vI x1] S I R (fun S52 I52 R52 => LX10_part_64 G x0 x3 S52 I52 R52 Q)))))) : LX10_part_45 G x0 x1 x2 x3 S I R Q := by
  show E G MX10_part 45 [(0, vR x0), (1, vI x1), (2, vI x2), (3, vI x3)] [] S I R (qI Q)
  refine e_iload_n 2 dX10_part_45 rfl ?_
  refine e_iconst dX10_part_46 (by unfold InR; decide) ?_
  refine e_icmp_ne (tgt := 58) dX10_part_47 (by decide) (fun c => ?_) (fun c => ?_)
  · replace h := h.1 c
    refine e_aload_n 0 dX10_part_58 rfl ?_
    refine e_iload_n 1 dX10_part_59 rfl ?_
    refine e_iload_n 2 dX10_part_60 rfl ?_
    have o4 := h.1
    replace h := h.2
    refine i_VV (μ' := MX10_heapsPart) (ci := 9) (r := x0) (as := [vI x1, vI x2]) (st := []) rfl dX10_part_61 mOKX10_heapsPart ⟨mlX10_225, imX10_heapsPart, seX10_heapsPart⟩ (by decide) (Nat.le_of_ble_eq_true rfl) rfl (Nat.le_of_ble_eq_true rfl) ⟨by decide, rfl⟩ o4 (CV.mono h ?_)
    clear h
    intro S61 I61 R61 h
    exact e_sub (ls2 := [(0, vR x0), (3, vI x3)]) [0, 3] rfl h
  · replace h := h.2 c
    refine e_aload_n 0 dX10_part_50 rfl ?_
    refine e_iload_n 1 dX10_part_51 rfl ?_
    have o5 := h.1
    replace h := h.2
    refine i_VV (μ' := MX10_heapsLow) (ci := 9) (r := x0) (as := [vI x1]) (st := []) rfl dX10_part_52 mOKX10_heapsLow ⟨mlX10_222, imX10_heapsLow, seX10_heapsLow⟩ (by decide) (Nat.le_of_ble_eq_true rfl) rfl (Nat.le_of_ble_eq_true rfl) ⟨by decide, rfl⟩ o5 (CV.mono h ?_)
    clear h
    intro S52 I52 R52 h
    refine e_goto (tgt := 64) dX10_part_55 (by decide) ?_
    exact e_sub (ls2 := [(0, vR x0), (3, vI x3)]) [0, 3] rfl h
set_option maxRecDepth 100000 in
set_option maxHeartbeats 4000000 in
theorem bX10_part_64 {G : Gl} {S : Sh} {I : MI} {R : MR} {Q : Sh → MI → MR → Int → Prop} {x0 : Nat} {x3 : Int} (h : (sT S x0 = 10 ∧ (CI G MX10_takes [vR x0, vI x3] S I R (fun S66 I66 R66 x66_ => ((x66_ = 0 → Q S66 I66 R66 (-1)) ∧ (¬ (x66_ = 0) → (sT S66 x0 = 10 ∧ (sT S66 (R66 x0 4) = 21 ∧ (((0 : Int) ≤ x3 ∧ x3 < (sL S66 (R66 x0 4) : Int)) ∧ Q S66 I66 R66 (I66 (R66 x0 4) (Int.toNat x3))))))))))) : LX10_part_64 G x0 x3 S I R Q := by
  show E G MX10_part 64 [(0, vR x0), (3, vI x3)] [] S I R (qI Q)
  refine e_aload_n 0 dX10_part_64 rfl ?_
  refine e_iload_n 1 dX10_part_65 rfl ?_
  have o6 := h.1
  replace h := h.2
  refine i_VI (μ' := MX10_takes) (ci := 9) (r := x0) (as := [vI x3]) (st := []) rfl dX10_part_66 mOKX10_takes ⟨mlX10_128, imX10_takes, seX10_takes⟩ (by decide) (Nat.le_of_ble_eq_true rfl) rfl (Nat.le_of_ble_eq_true rfl) ⟨by decide, rfl⟩ o6 (CI.mono h ?_)
  clear h
  intro S66 I66 R66 x66_ h
  refine e_if_eq (tgt := 81) dX10_part_69 (by decide) (fun c => ?_) (fun c => ?_)
  · replace h := h.1 c
    refine e_iconst dX10_part_81 (by unfold InR; decide) ?_
    exact e_ireturn dX10_part_82 rfl ⟨_, rfl, h⟩
  · replace h := h.2 c
    refine e_aload_n 0 dX10_part_72 rfl ?_
    have o7 := h.1
    replace h := h.2
    refine e_getR dX10_part_73 flX10_20 rfl o7 ?_
    refine e_iload_n 1 dX10_part_76 rfl ?_
    have o8 := h.1
    replace h := h.2
    have o9 := h.1
    replace h := h.2
    refine e_iald dX10_part_77 o8 o9 ?_
    refine e_goto (tgt := 82) dX10_part_78 (by decide) ?_
    exact e_ireturn dX10_part_82 rfl ⟨_, rfl, h⟩

def vX10_rowOf  (x0 : Nat) (x1 : Int) (x2 : Int) : Int := (w32 ((w32 (8 + (w32 (10 * x1)))) + x2))
set_option maxRecDepth 100000 in
set_option maxHeartbeats 4000000 in
theorem sX10_rowOf {G : Gl} {S : Sh} {I : MI} {R : MR} {Q : Sh → MI → MR → Int → Prop} {x0 : Nat} {x1 : Int} {x2 : Int} (hq : Q S I R (vX10_rowOf x0 x1 x2)) : CI G MX10_rowOf [vR x0, vI x1, vI x2] S I R Q := by
  show E G MX10_rowOf 0 [(0, vR x0), (1, vI x1), (2, vI x2)] [] S I R (qI Q)
  unfold vX10_rowOf at hq
  refine e_bipush (x := 8) dX10_rowOf_0 ⟨by decide +kernel, by unfold InR; decide⟩ ?_
  refine e_bipush (x := 10) dX10_rowOf_2 ⟨by decide +kernel, by unfold InR; decide⟩ ?_
  refine e_iload_n 1 dX10_rowOf_4 rfl ?_
  refine e_imul dX10_rowOf_5 ?_
  refine e_iadd dX10_rowOf_6 ?_
  refine e_iload_n 2 dX10_rowOf_7 rfl ?_
  refine e_iadd dX10_rowOf_8 ?_
  exact e_ireturn dX10_rowOf_9 rfl ⟨_, rfl, hq⟩

def LX10_divides_2 (G : Gl) (x0 : Nat) (x1 : Int) (x2 : Int) (x3 : Int) (S : Sh) (I : MI) (R : MR) (Q : Sh → MI → MR → Int → Prop) : Prop := E G MX10_divides 2 [(0, vR x0), (1, vI x1), (2, vI x2), (3, vI x3)] [] S I R (qI Q)
set_option maxRecDepth 100000 in
set_option maxHeartbeats 4000000 in
theorem bX10_divides {G : Gl} {S : Sh} {I : MI} {R : MR} {Q : Sh → MI → MR → Int → Prop} {x0 : Nat} {x1 : Int} {x2 : Int} (h : LX10_divides_2 G x0 x1 x2 0 S I R Q) : CI G MX10_divides [vR x0, vI x1, vI x2] S I R Q := by
  show E G MX10_divides 0 [(0, vR x0), (1, vI x1), (2, vI x2)] [] S I R (qI Q)
  refine e_iconst dX10_divides_0 (by unfold InR; decide) ?_
  refine e_istore_n (ls2 := [(3, vI 0), (0, vR x0), (1, vI x1), (2, vI x2)]) dX10_divides_1 (by decide) rfl ?_
  exact e_sub (ls2 := [(0, vR x0), (1, vI x1), (2, vI x2), (3, vI 0)]) [1, 2, 3, 0] rfl h
set_option maxRecDepth 100000 in
set_option maxHeartbeats 4000000 in
theorem bX10_divides_2 {G : Gl} {S : Sh} {I : MI} {R : MR} {Q : Sh → MI → MR → Int → Prop} {x0 : Nat} {x1 : Int} {x2 : Int} {x3 : Int} (h : ((3 ≤ x3 → Q S I R 1) ∧ (¬ (3 ≤ x3) → (sT S x0 = 10 ∧ ((pX10_power S R x0 x1 0 x3) ∧ ((pX10_power S R x0 x2 0 x3) ∧ (((vX10_power I R x0 x1 0 x3) ≤ (vX10_power I R x0 x2 0 x3) → LX10_divides_2 G x0 x1 x2 (w32 (x3 + 1)) S I R Q) ∧ (¬ ((vX10_power I R x0 x1 0 x3) ≤ (vX10_power I R x0 x2 0 x3)) → Q S I R 0)))))))) : LX10_divides_2 G x0 x1 x2 x3 S I R Q := by
  show E G MX10_divides 2 [(0, vR x0), (1, vI x1), (2, vI x2), (3, vI x3)] [] S I R (qI Q)
  refine e_iload_n 3 dX10_divides_2 rfl ?_
  refine e_iconst dX10_divides_3 (by unfold InR; decide) ?_
  refine e_icmp_ge (tgt := 32) dX10_divides_4 (by decide) (fun c => ?_) (fun c => ?_)
  · replace h := h.1 c
    refine e_iconst dX10_divides_32 (by unfold InR; decide) ?_
    exact e_zreturn dX10_divides_33 rfl (by decide) ⟨_, rfl, h⟩
  · replace h := h.2 c
    refine e_aload_n 0 dX10_divides_7 rfl ?_
    refine e_iload_n 1 dX10_divides_8 rfl ?_
    refine e_iconst dX10_divides_9 (by unfold InR; decide) ?_
    refine e_iload_n 3 dX10_divides_10 rfl ?_
    have o1 := h.1
    replace h := h.2
    have o2 := h.1
    replace h := h.2
    refine i_VI (μ' := MX10_power) (ci := 9) (r := x0) (as := [vI x1, vI 0, vI x3]) (st := []) rfl dX10_divides_11 mOKX10_power ⟨mlX10_72, imX10_power, seX10_power⟩ (by decide) (Nat.le_of_ble_eq_true rfl) rfl (Nat.le_of_ble_eq_true rfl) ⟨by decide, rfl⟩ o1 (sX10_power o2 ?_)
    refine e_aload_n 0 dX10_divides_14 rfl ?_
    refine e_iload_n 2 dX10_divides_15 rfl ?_
    refine e_iconst dX10_divides_16 (by unfold InR; decide) ?_
    refine e_iload_n 3 dX10_divides_17 rfl ?_
    have o3 := h.1
    replace h := h.2
    refine i_VI (μ' := MX10_power) (ci := 9) (r := x0) (as := [vI x2, vI 0, vI x3]) (st := [vI (vX10_power I R x0 x1 0 x3)]) rfl dX10_divides_18 mOKX10_power ⟨mlX10_72, imX10_power, seX10_power⟩ (by decide) (Nat.le_of_ble_eq_true rfl) rfl (Nat.le_of_ble_eq_true rfl) ⟨by decide, rfl⟩ o1 (sX10_power o3 ?_)
    refine e_icmp_le (tgt := 26) dX10_divides_21 (by decide) (fun c => ?_) (fun c => ?_)
    · replace h := h.1 c
      refine e_iinc (ls2 := [(3, vI (w32 (x3 + 1))), (0, vR x0), (1, vI x1), (2, vI x2)]) 3 dX10_divides_26 rfl (by decide) rfl ?_
      refine e_goto (tgt := 2) dX10_divides_29 (by decide) ?_
      exact e_sub (ls2 := [(0, vR x0), (1, vI x1), (2, vI x2), (3, vI (w32 (x3 + 1)))]) [1, 2, 3, 0] rfl h
    · replace h := h.2 c
      refine e_iconst dX10_divides_24 (by unfold InR; decide) ?_
      exact e_zreturn dX10_divides_25 rfl (by decide) ⟨_, rfl, h⟩

def LX10_dividing_4 (G : Gl) (x0 : Nat) (x1 : Int) (x2 : Int) (x3 : Int) (S : Sh) (I : MI) (R : MR) (Q : Sh → MI → MR → Int → Prop) : Prop := E G MX10_dividing 4 [(0, vR x0), (1, vI x1), (2, vI x2), (3, vI x3)] [] S I R (qI Q)
set_option maxRecDepth 100000 in
set_option maxHeartbeats 4000000 in
theorem bX10_dividing {G : Gl} {S : Sh} {I : MI} {R : MR} {Q : Sh → MI → MR → Int → Prop} {x0 : Nat} {x1 : Int} (h : LX10_dividing_4 G x0 x1 (-1) 0 S I R Q) : CI G MX10_dividing [vR x0, vI x1] S I R Q := by
  show E G MX10_dividing 0 [(0, vR x0), (1, vI x1)] [] S I R (qI Q)
  refine e_iconst dX10_dividing_0 (by unfold InR; decide) ?_
  refine e_istore_n (ls2 := [(2, vI (-1)), (0, vR x0), (1, vI x1)]) dX10_dividing_1 (by decide) rfl ?_
  refine e_iconst dX10_dividing_2 (by unfold InR; decide) ?_
  refine e_istore_n (ls2 := [(3, vI 0), (2, vI (-1)), (0, vR x0), (1, vI x1)]) dX10_dividing_3 (by decide) rfl ?_
  exact e_sub (ls2 := [(0, vR x0), (1, vI x1), (2, vI (-1)), (3, vI 0)]) [2, 3, 1, 0] rfl h
set_option maxRecDepth 100000 in
set_option maxHeartbeats 4000000 in
theorem bX10_dividing_4 {G : Gl} {S : Sh} {I : MI} {R : MR} {Q : Sh → MI → MR → Int → Prop} {x0 : Nat} {x1 : Int} {x2 : Int} {x3 : Int} (h : (sT S x0 = 10 ∧ (((I x0 24) ≤ x3 → Q S I R x2) ∧ (¬ ((I x0 24) ≤ x3) → (CI G MX10_divides [vR x0, vI (vX10_rowOf x0 x3 0), vI x1] S I R (fun S24 I24 R24 x24_ => ((x24_ = 0 → LX10_dividing_4 G x0 x1 x2 (w32 (x3 + 1)) S24 I24 R24 Q) ∧ (¬ (x24_ = 0) → ((x2 = (-1) → LX10_dividing_4 G x0 x1 x3 (w32 (x3 + 1)) S24 I24 R24 Q) ∧ (¬ (x2 = (-1)) → (sT S24 x0 = 10 ∧ ((pX10_ecart S24 I24 R24 x0 (vX10_rowOf x0 x3 0)) ∧ ((pX10_ecart S24 I24 R24 x0 (vX10_rowOf x0 x2 0)) ∧ (((vX10_ecart I24 R24 x0 (vX10_rowOf x0 x2 0)) ≤ (vX10_ecart I24 R24 x0 (vX10_rowOf x0 x3 0)) → LX10_dividing_4 G x0 x1 x2 (w32 (x3 + 1)) S24 I24 R24 Q) ∧ (¬ ((vX10_ecart I24 R24 x0 (vX10_rowOf x0 x2 0)) ≤ (vX10_ecart I24 R24 x0 (vX10_rowOf x0 x3 0))) → LX10_dividing_4 G x0 x1 x3 (w32 (x3 + 1)) S24 I24 R24 Q))))))))))))))) : LX10_dividing_4 G x0 x1 x2 x3 S I R Q := by
  show E G MX10_dividing 4 [(0, vR x0), (1, vI x1), (2, vI x2), (3, vI x3)] [] S I R (qI Q)
  refine e_iload_n 3 dX10_dividing_4 rfl ?_
  refine e_aload_n 0 dX10_dividing_5 rfl ?_
  have o1 := h.1
  replace h := h.2
  refine e_getI dX10_dividing_6 flX10_228 rfl o1 ?_
  refine e_icmp_ge (tgt := 62) dX10_dividing_9 (by decide) (fun c => ?_) (fun c => ?_)
  · replace h := h.1 c
    refine e_iload_n 2 dX10_dividing_62 rfl ?_
    exact e_ireturn dX10_dividing_63 rfl ⟨_, rfl, h⟩
  · replace h := h.2 c
    refine e_aload_n 0 dX10_dividing_12 rfl ?_
    refine e_iload_n 3 dX10_dividing_13 rfl ?_
    refine e_iconst dX10_dividing_14 (by unfold InR; decide) ?_
    refine i_VI (μ' := MX10_rowOf) (ci := 9) (r := x0) (as := [vI x3, vI 0]) (st := []) rfl dX10_dividing_15 mOKX10_rowOf ⟨mlX10_231, imX10_rowOf, seX10_rowOf⟩ (by decide) (Nat.le_of_ble_eq_true rfl) rfl (Nat.le_of_ble_eq_true rfl) ⟨by decide, rfl⟩ o1 (sX10_rowOf ?_)
    refine e_istore (ls2 := [(4, vI (vX10_rowOf x0 x3 0)), (0, vR x0), (1, vI x1), (2, vI x2), (3, vI x3)]) dX10_dividing_18 (by decide) rfl ?_
    refine e_aload_n 1 dX10_dividing_20 rfl ?_
    refine e_iload 0 dX10_dividing_21 rfl ?_
    refine e_iload_n 2 dX10_dividing_23 rfl ?_
    refine i_VI (μ' := MX10_divides) (ci := 9) (r := x0) (as := [vI (vX10_rowOf x0 x3 0), vI x1]) (st := []) rfl dX10_dividing_24 mOKX10_divides ⟨mlX10_234, imX10_divides, seX10_divides⟩ (by decide) (Nat.le_of_ble_eq_true rfl) rfl (Nat.le_of_ble_eq_true rfl) ⟨by decide, rfl⟩ o1 (CI.mono h ?_)
    clear h
    intro S24 I24 R24 x24_ h
    refine e_if_eq (tgt := 56) dX10_dividing_27 (by decide) (fun c => ?_) (fun c => ?_)
    · replace h := h.1 c
      refine e_iinc (ls2 := [(3, vI (w32 (x3 + 1))), (4, vI (vX10_rowOf x0 x3 0)), (0, vR x0), (1, vI x1), (2, vI x2)]) 4 dX10_dividing_56 rfl (by decide) rfl ?_
      refine e_goto (tgt := 4) dX10_dividing_59 (by decide) ?_
      exact e_sub (ls2 := [(0, vR x0), (1, vI x1), (2, vI x2), (3, vI (w32 (x3 + 1)))]) [2, 3, 4, 0] rfl h
    · replace h := h.2 c
      refine e_iload_n 3 dX10_dividing_30 rfl ?_
      refine e_iconst dX10_dividing_31 (by unfold InR; decide) ?_
      refine e_icmp_eq (tgt := 54) dX10_dividing_32 (by decide) (fun c => ?_) (fun c => ?_)
      · replace h := h.1 c
        refine e_iload_n 4 dX10_dividing_54 rfl ?_
        refine e_istore_n (ls2 := [(2, vI x3), (4, vI (vX10_rowOf x0 x3 0)), (0, vR x0), (1, vI x1), (3, vI x3)]) dX10_dividing_55 (by decide) rfl ?_
        refine e_iinc (ls2 := [(3, vI (w32 (x3 + 1))), (2, vI x3), (4, vI (vX10_rowOf x0 x3 0)), (0, vR x0), (1, vI x1)]) 4 dX10_dividing_56 rfl (by decide) rfl ?_
        refine e_goto (tgt := 4) dX10_dividing_59 (by decide) ?_
        exact e_sub (ls2 := [(0, vR x0), (1, vI x1), (2, vI x3), (3, vI (w32 (x3 + 1)))]) [3, 4, 1, 0] rfl h
      · replace h := h.2 c
        refine e_aload_n 1 dX10_dividing_35 rfl ?_
        refine e_iload 0 dX10_dividing_36 rfl ?_
        have o2 := h.1
        replace h := h.2
        have o3 := h.1
        replace h := h.2
        refine i_VI (μ' := MX10_ecart) (ci := 9) (r := x0) (as := [vI (vX10_rowOf x0 x3 0)]) (st := []) rfl dX10_dividing_38 mOKX10_ecart ⟨mlX10_213, imX10_ecart, seX10_ecart⟩ (by decide) (Nat.le_of_ble_eq_true rfl) rfl (Nat.le_of_ble_eq_true rfl) ⟨by decide, rfl⟩ o2 (sX10_ecart o3 ?_)
        refine e_aload_n 1 dX10_dividing_41 rfl ?_
        refine e_aload_n 1 dX10_dividing_42 rfl ?_
        refine e_iload_n 3 dX10_dividing_43 rfl ?_
        refine e_iconst dX10_dividing_44 (by unfold InR; decide) ?_
        refine i_VI (μ' := MX10_rowOf) (ci := 9) (r := x0) (as := [vI x2, vI 0]) (st := [vR x0, vI (vX10_ecart I24 R24 x0 (vX10_rowOf x0 x3 0))]) rfl dX10_dividing_45 mOKX10_rowOf ⟨mlX10_231, imX10_rowOf, seX10_rowOf⟩ (by decide) (Nat.le_of_ble_eq_true rfl) rfl (Nat.le_of_ble_eq_true rfl) ⟨by decide, rfl⟩ o2 (sX10_rowOf ?_)
        have o4 := h.1
        replace h := h.2
        refine i_VI (μ' := MX10_ecart) (ci := 9) (r := x0) (as := [vI (vX10_rowOf x0 x2 0)]) (st := [vI (vX10_ecart I24 R24 x0 (vX10_rowOf x0 x3 0))]) rfl dX10_dividing_48 mOKX10_ecart ⟨mlX10_213, imX10_ecart, seX10_ecart⟩ (by decide) (Nat.le_of_ble_eq_true rfl) rfl (Nat.le_of_ble_eq_true rfl) ⟨by decide, rfl⟩ o2 (sX10_ecart o4 ?_)
        refine e_icmp_ge (tgt := 56) dX10_dividing_51 (by decide) (fun c => ?_) (fun c => ?_)
        · replace h := h.1 c
          refine e_iinc (ls2 := [(3, vI (w32 (x3 + 1))), (4, vI (vX10_rowOf x0 x3 0)), (0, vR x0), (1, vI x1), (2, vI x2)]) 4 dX10_dividing_56 rfl (by decide) rfl ?_
          refine e_goto (tgt := 4) dX10_dividing_59 (by decide) ?_
          exact e_sub (ls2 := [(0, vR x0), (1, vI x1), (2, vI x2), (3, vI (w32 (x3 + 1)))]) [2, 3, 4, 0] rfl h
        · replace h := h.2 c
          refine e_iload_n 4 dX10_dividing_54 rfl ?_
          refine e_istore_n (ls2 := [(2, vI x3), (4, vI (vX10_rowOf x0 x3 0)), (0, vR x0), (1, vI x1), (3, vI x3)]) dX10_dividing_55 (by decide) rfl ?_
          refine e_iinc (ls2 := [(3, vI (w32 (x3 + 1))), (2, vI x3), (4, vI (vX10_rowOf x0 x3 0)), (0, vR x0), (1, vI x1)]) 4 dX10_dividing_56 rfl (by decide) rfl ?_
          refine e_goto (tgt := 4) dX10_dividing_59 (by decide) ?_
          exact e_sub (ls2 := [(0, vR x0), (1, vI x1), (2, vI x3), (3, vI (w32 (x3 + 1)))]) [3, 4, 1, 0] rfl h

set_option maxRecDepth 100000 in
set_option maxHeartbeats 4000000 in
theorem bX10_lessens {G : Gl} {S : Sh} {I : MI} {R : MR} {Q : Sh → MI → MR → Int → Prop} {x0 : Nat} {x1 : Int} {x2 : Int} {x3 : Int} {x4 : Int} {x5 : Int} (h : (sT S x0 = 10 ∧ (∀ I2, I2 = up2 I x0 9 0 → (CV G MX10_heapsRow [vR x0, vI x1, vI 1, vI 0, vI 0, vI 0] S I2 R (fun S11 I11 R11 => (sT S11 x0 = 10 ∧ ((pX10_power S11 R11 x0 x4 0 0) ∧ ((pX10_power S11 R11 x0 x5 0 0) ∧ ((pX10_power S11 R11 x0 x4 0 1) ∧ ((pX10_power S11 R11 x0 x5 0 1) ∧ ((pX10_power S11 R11 x0 x4 0 2) ∧ ((pX10_power S11 R11 x0 x5 0 2) ∧ (CV G MX10_heapsRow [vR x0, vI x2, vI (w32 ((I11 x0 2) - x3)), vI (w32 ((vX10_power I11 R11 x0 x4 0 0) - (vX10_power I11 R11 x0 x5 0 0))), vI (w32 ((vX10_power I11 R11 x0 x4 0 1) - (vX10_power I11 R11 x0 x5 0 1))), vI (w32 ((vX10_power I11 R11 x0 x4 0 2) - (vX10_power I11 R11 x0 x5 0 2)))] S11 I11 R11 (fun S73 I73 R73 => (sT S73 x0 = 10 ∧ (CI G MX10_takes [vR x0, vI 290] S73 I73 R73 (fun S80 I80 R80 x80_ => ((x80_ = 0 ∨ x80_ = 1) ∧ Q S80 I80 R80 x80_)))))))))))))))))) : CI G MX10_lessens [vR x0, vI x1, vI x2, vI x3, vI x4, vI x5] S I R Q := by
  show E G MX10_lessens 0 [(0, vR x0), (1, vI x1), (2, vI x2), (3, vI x3), (4, vI x4), (5, vI x5)] [] S I R (qI Q)
  refine e_aload_n 0 dX10_lessens_0 rfl ?_
  refine e_iconst dX10_lessens_1 (by unfold InR; decide) ?_
  have o1 := h.1
  replace h := h.2
  obtain ⟨I2, eI2⟩ : ∃ z : MI, z = up2 I x0 9 0 := ⟨_, rfl⟩
  replace h := h I2 eI2
  refine e_putI dX10_lessens_2 flX10_93 rfl (Or.inl rfl) o1 (eqI eI2 ?_)
  refine e_aload_n 0 dX10_lessens_5 rfl ?_
  refine e_iload_n 1 dX10_lessens_6 rfl ?_
  refine e_iconst dX10_lessens_7 (by unfold InR; decide) ?_
  refine e_iconst dX10_lessens_8 (by unfold InR; decide) ?_
  refine e_iconst dX10_lessens_9 (by unfold InR; decide) ?_
  refine e_iconst dX10_lessens_10 (by unfold InR; decide) ?_
  refine i_VV (μ' := MX10_heapsRow) (ci := 9) (r := x0) (as := [vI x1, vI 1, vI 0, vI 0, vI 0]) (st := []) rfl dX10_lessens_11 mOKX10_heapsRow ⟨mlX10_124, imX10_heapsRow, seX10_heapsRow⟩ (by decide) (Nat.le_of_ble_eq_true rfl) rfl (Nat.le_of_ble_eq_true rfl) ⟨by decide, rfl⟩ o1 (CV.mono h ?_)
  clear h
  intro S11 I11 R11 h
  refine e_aload_n 0 dX10_lessens_14 rfl ?_
  refine e_iload_n 2 dX10_lessens_15 rfl ?_
  refine e_aload_n 0 dX10_lessens_16 rfl ?_
  have o2 := h.1
  replace h := h.2
  refine e_getI dX10_lessens_17 flX10_13 rfl o2 ?_
  refine e_iload_n 3 dX10_lessens_20 rfl ?_
  refine e_isub dX10_lessens_21 ?_
  refine e_aload_n 0 dX10_lessens_22 rfl ?_
  refine e_iload 4 dX10_lessens_23 rfl ?_
  refine e_iconst dX10_lessens_25 (by unfold InR; decide) ?_
  refine e_iconst dX10_lessens_26 (by unfold InR; decide) ?_
  have o3 := h.1
  replace h := h.2
  refine i_VI (μ' := MX10_power) (ci := 9) (r := x0) (as := [vI x4, vI 0, vI 0]) (st := [vI (w32 ((I11 x0 2) - x3)), vI x2, vR x0]) rfl dX10_lessens_27 mOKX10_power ⟨mlX10_72, imX10_power, seX10_power⟩ (by decide) (Nat.le_of_ble_eq_true rfl) rfl (Nat.le_of_ble_eq_true rfl) ⟨by decide, rfl⟩ o2 (sX10_power o3 ?_)
  refine e_aload_n 0 dX10_lessens_30 rfl ?_
  refine e_iload 5 dX10_lessens_31 rfl ?_
  refine e_iconst dX10_lessens_33 (by unfold InR; decide) ?_
  refine e_iconst dX10_lessens_34 (by unfold InR; decide) ?_
  have o4 := h.1
  replace h := h.2
  refine i_VI (μ' := MX10_power) (ci := 9) (r := x0) (as := [vI x5, vI 0, vI 0]) (st := [vI (vX10_power I11 R11 x0 x4 0 0), vI (w32 ((I11 x0 2) - x3)), vI x2, vR x0]) rfl dX10_lessens_35 mOKX10_power ⟨mlX10_72, imX10_power, seX10_power⟩ (by decide) (Nat.le_of_ble_eq_true rfl) rfl (Nat.le_of_ble_eq_true rfl) ⟨by decide, rfl⟩ o2 (sX10_power o4 ?_)
  refine e_isub dX10_lessens_38 ?_
  refine e_aload_n 0 dX10_lessens_39 rfl ?_
  refine e_iload 4 dX10_lessens_40 rfl ?_
  refine e_iconst dX10_lessens_42 (by unfold InR; decide) ?_
  refine e_iconst dX10_lessens_43 (by unfold InR; decide) ?_
  have o5 := h.1
  replace h := h.2
  refine i_VI (μ' := MX10_power) (ci := 9) (r := x0) (as := [vI x4, vI 0, vI 1]) (st := [vI (w32 ((vX10_power I11 R11 x0 x4 0 0) - (vX10_power I11 R11 x0 x5 0 0))), vI (w32 ((I11 x0 2) - x3)), vI x2, vR x0]) rfl dX10_lessens_44 mOKX10_power ⟨mlX10_72, imX10_power, seX10_power⟩ (by decide) (Nat.le_of_ble_eq_true rfl) rfl (Nat.le_of_ble_eq_true rfl) ⟨by decide, rfl⟩ o2 (sX10_power o5 ?_)
  refine e_aload_n 0 dX10_lessens_47 rfl ?_
  refine e_iload 5 dX10_lessens_48 rfl ?_
  refine e_iconst dX10_lessens_50 (by unfold InR; decide) ?_
  refine e_iconst dX10_lessens_51 (by unfold InR; decide) ?_
  have o6 := h.1
  replace h := h.2
  refine i_VI (μ' := MX10_power) (ci := 9) (r := x0) (as := [vI x5, vI 0, vI 1]) (st := [vI (vX10_power I11 R11 x0 x4 0 1), vI (w32 ((vX10_power I11 R11 x0 x4 0 0) - (vX10_power I11 R11 x0 x5 0 0))), vI (w32 ((I11 x0 2) - x3)), vI x2, vR x0]) rfl dX10_lessens_52 mOKX10_power ⟨mlX10_72, imX10_power, seX10_power⟩ (by decide) (Nat.le_of_ble_eq_true rfl) rfl (Nat.le_of_ble_eq_true rfl) ⟨by decide, rfl⟩ o2 (sX10_power o6 ?_)
  refine e_isub dX10_lessens_55 ?_
  refine e_aload_n 0 dX10_lessens_56 rfl ?_
  refine e_iload 4 dX10_lessens_57 rfl ?_
  refine e_iconst dX10_lessens_59 (by unfold InR; decide) ?_
  refine e_iconst dX10_lessens_60 (by unfold InR; decide) ?_
  have o7 := h.1
  replace h := h.2
  refine i_VI (μ' := MX10_power) (ci := 9) (r := x0) (as := [vI x4, vI 0, vI 2]) (st := [vI (w32 ((vX10_power I11 R11 x0 x4 0 1) - (vX10_power I11 R11 x0 x5 0 1))), vI (w32 ((vX10_power I11 R11 x0 x4 0 0) - (vX10_power I11 R11 x0 x5 0 0))), vI (w32 ((I11 x0 2) - x3)), vI x2, vR x0]) rfl dX10_lessens_61 mOKX10_power ⟨mlX10_72, imX10_power, seX10_power⟩ (by decide) (Nat.le_of_ble_eq_true rfl) rfl (Nat.le_of_ble_eq_true rfl) ⟨by decide, rfl⟩ o2 (sX10_power o7 ?_)
  refine e_aload_n 0 dX10_lessens_64 rfl ?_
  refine e_iload 5 dX10_lessens_65 rfl ?_
  refine e_iconst dX10_lessens_67 (by unfold InR; decide) ?_
  refine e_iconst dX10_lessens_68 (by unfold InR; decide) ?_
  have o8 := h.1
  replace h := h.2
  refine i_VI (μ' := MX10_power) (ci := 9) (r := x0) (as := [vI x5, vI 0, vI 2]) (st := [vI (vX10_power I11 R11 x0 x4 0 2), vI (w32 ((vX10_power I11 R11 x0 x4 0 1) - (vX10_power I11 R11 x0 x5 0 1))), vI (w32 ((vX10_power I11 R11 x0 x4 0 0) - (vX10_power I11 R11 x0 x5 0 0))), vI (w32 ((I11 x0 2) - x3)), vI x2, vR x0]) rfl dX10_lessens_69 mOKX10_power ⟨mlX10_72, imX10_power, seX10_power⟩ (by decide) (Nat.le_of_ble_eq_true rfl) rfl (Nat.le_of_ble_eq_true rfl) ⟨by decide, rfl⟩ o2 (sX10_power o8 ?_)
  refine e_isub dX10_lessens_72 ?_
  refine i_VV (μ' := MX10_heapsRow) (ci := 9) (r := x0) (as := [vI x2, vI (w32 ((I11 x0 2) - x3)), vI (w32 ((vX10_power I11 R11 x0 x4 0 0) - (vX10_power I11 R11 x0 x5 0 0))), vI (w32 ((vX10_power I11 R11 x0 x4 0 1) - (vX10_power I11 R11 x0 x5 0 1))), vI (w32 ((vX10_power I11 R11 x0 x4 0 2) - (vX10_power I11 R11 x0 x5 0 2)))]) (st := []) rfl dX10_lessens_73 mOKX10_heapsRow ⟨mlX10_124, imX10_heapsRow, seX10_heapsRow⟩ (by decide) (Nat.le_of_ble_eq_true rfl) rfl (Nat.le_of_ble_eq_true rfl) ⟨by decide, rfl⟩ o2 (CV.mono h ?_)
  clear h
  intro S73 I73 R73 h
  refine e_aload_n 0 dX10_lessens_76 rfl ?_
  refine e_sipush (x := 290) dX10_lessens_77 ⟨by decide +kernel, by unfold InR; decide⟩ ?_
  have o9 := h.1
  replace h := h.2
  refine i_VI (μ' := MX10_takes) (ci := 9) (r := x0) (as := [vI 290]) (st := []) rfl dX10_lessens_80 mOKX10_takes ⟨mlX10_128, imX10_takes, seX10_takes⟩ (by decide) (Nat.le_of_ble_eq_true rfl) rfl (Nat.le_of_ble_eq_true rfl) ⟨by decide, rfl⟩ o9 (CI.mono h ?_)
  clear h
  intro S80 I80 R80 x80_ h
  exact e_zreturn dX10_lessens_83 rfl h.1 ⟨_, rfl, h.2⟩

set_option maxRecDepth 100000 in
set_option maxHeartbeats 4000000 in
theorem bX10_grows {G : Gl} {S : Sh} {I : MI} {R : MR} {Q : Sh → MI → MR → Int → Prop} {x0 : Nat} {x1 : Int} {x2 : Int} {x3 : Int} (h : (sT S x0 = 10 ∧ (∀ I2, I2 = up2 I x0 9 0 → (CV G MX10_heapsRow [vR x0, vI (vX10_rowOf x0 21 (w32 (2 + x1))), vI 1, vI 0, vI 0, vI 0] S I2 R (fun S19 I19 R19 => (sT S19 x0 = 10 ∧ ((pX10_power S19 R19 x0 292 0 0) ∧ ((pX10_power S19 R19 x0 x3 0 0) ∧ ((pX10_power S19 R19 x0 292 0 1) ∧ ((pX10_power S19 R19 x0 x3 0 1) ∧ ((pX10_power S19 R19 x0 292 0 2) ∧ ((pX10_power S19 R19 x0 x3 0 2) ∧ (CV G MX10_heaps [vR x0, vI x2, vI (w32 ((vX10_power I19 R19 x0 292 0 0) - (vX10_power I19 R19 x0 x3 0 0))), vI (w32 ((vX10_power I19 R19 x0 292 0 1) - (vX10_power I19 R19 x0 x3 0 1))), vI (w32 ((vX10_power I19 R19 x0 292 0 2) - (vX10_power I19 R19 x0 x3 0 2)))] S19 I19 R19 (fun S75 I75 R75 => (sT S75 x0 = 10 ∧ (CI G MX10_takes [vR x0, vI 290] S75 I75 R75 (fun S82 I82 R82 x82_ => ((x82_ ≠ 0 → (sT S82 x0 = 10 ∧ (CV G MX10_copies [vR x0, vI 290, vI (vX10_rowOf x0 21 (w32 (2 + x1)))] S82 I82 R82 (fun S103 I103 R103 => Q S103 I103 R103 1)))) ∧ (¬ (x82_ ≠ 0) → Q S82 I82 R82 0))))))))))))))))))) : CI G MX10_grows [vR x0, vI x1, vI x2, vI x3] S I R Q := by
  show E G MX10_grows 0 [(0, vR x0), (1, vI x1), (2, vI x2), (3, vI x3)] [] S I R (qI Q)
  refine e_aload_n 0 dX10_grows_0 rfl ?_
  refine e_iconst dX10_grows_1 (by unfold InR; decide) ?_
  have o1 := h.1
  replace h := h.2
  obtain ⟨I2, eI2⟩ : ∃ z : MI, z = up2 I x0 9 0 := ⟨_, rfl⟩
  replace h := h I2 eI2
  refine e_putI dX10_grows_2 flX10_93 rfl (Or.inl rfl) o1 (eqI eI2 ?_)
  refine e_aload_n 0 dX10_grows_5 rfl ?_
  refine e_aload_n 0 dX10_grows_6 rfl ?_
  refine e_bipush (x := 21) dX10_grows_7 ⟨by decide +kernel, by unfold InR; decide⟩ ?_
  refine e_iconst dX10_grows_9 (by unfold InR; decide) ?_
  refine e_iload_n 1 dX10_grows_10 rfl ?_
  refine e_iadd dX10_grows_11 ?_
  refine i_VI (μ' := MX10_rowOf) (ci := 9) (r := x0) (as := [vI 21, vI (w32 (2 + x1))]) (st := [vR x0]) rfl dX10_grows_12 mOKX10_rowOf ⟨mlX10_231, imX10_rowOf, seX10_rowOf⟩ (by decide) (Nat.le_of_ble_eq_true rfl) rfl (Nat.le_of_ble_eq_true rfl) ⟨by decide, rfl⟩ o1 (sX10_rowOf ?_)
  refine e_iconst dX10_grows_15 (by unfold InR; decide) ?_
  refine e_iconst dX10_grows_16 (by unfold InR; decide) ?_
  refine e_iconst dX10_grows_17 (by unfold InR; decide) ?_
  refine e_iconst dX10_grows_18 (by unfold InR; decide) ?_
  refine i_VV (μ' := MX10_heapsRow) (ci := 9) (r := x0) (as := [vI (vX10_rowOf x0 21 (w32 (2 + x1))), vI 1, vI 0, vI 0, vI 0]) (st := []) rfl dX10_grows_19 mOKX10_heapsRow ⟨mlX10_124, imX10_heapsRow, seX10_heapsRow⟩ (by decide) (Nat.le_of_ble_eq_true rfl) rfl (Nat.le_of_ble_eq_true rfl) ⟨by decide, rfl⟩ o1 (CV.mono h ?_)
  clear h
  intro S19 I19 R19 h
  refine e_aload_n 0 dX10_grows_22 rfl ?_
  refine e_iload_n 2 dX10_grows_23 rfl ?_
  refine e_aload_n 0 dX10_grows_24 rfl ?_
  refine e_sipush (x := 292) dX10_grows_25 ⟨by decide +kernel, by unfold InR; decide⟩ ?_
  refine e_iconst dX10_grows_28 (by unfold InR; decide) ?_
  refine e_iconst dX10_grows_29 (by unfold InR; decide) ?_
  have o2 := h.1
  replace h := h.2
  have o3 := h.1
  replace h := h.2
  refine i_VI (μ' := MX10_power) (ci := 9) (r := x0) (as := [vI 292, vI 0, vI 0]) (st := [vI x2, vR x0]) rfl dX10_grows_30 mOKX10_power ⟨mlX10_72, imX10_power, seX10_power⟩ (by decide) (Nat.le_of_ble_eq_true rfl) rfl (Nat.le_of_ble_eq_true rfl) ⟨by decide, rfl⟩ o2 (sX10_power o3 ?_)
  refine e_aload_n 0 dX10_grows_33 rfl ?_
  refine e_iload_n 3 dX10_grows_34 rfl ?_
  refine e_iconst dX10_grows_35 (by unfold InR; decide) ?_
  refine e_iconst dX10_grows_36 (by unfold InR; decide) ?_
  have o4 := h.1
  replace h := h.2
  refine i_VI (μ' := MX10_power) (ci := 9) (r := x0) (as := [vI x3, vI 0, vI 0]) (st := [vI (vX10_power I19 R19 x0 292 0 0), vI x2, vR x0]) rfl dX10_grows_37 mOKX10_power ⟨mlX10_72, imX10_power, seX10_power⟩ (by decide) (Nat.le_of_ble_eq_true rfl) rfl (Nat.le_of_ble_eq_true rfl) ⟨by decide, rfl⟩ o2 (sX10_power o4 ?_)
  refine e_isub dX10_grows_40 ?_
  refine e_aload_n 0 dX10_grows_41 rfl ?_
  refine e_sipush (x := 292) dX10_grows_42 ⟨by decide +kernel, by unfold InR; decide⟩ ?_
  refine e_iconst dX10_grows_45 (by unfold InR; decide) ?_
  refine e_iconst dX10_grows_46 (by unfold InR; decide) ?_
  have o5 := h.1
  replace h := h.2
  refine i_VI (μ' := MX10_power) (ci := 9) (r := x0) (as := [vI 292, vI 0, vI 1]) (st := [vI (w32 ((vX10_power I19 R19 x0 292 0 0) - (vX10_power I19 R19 x0 x3 0 0))), vI x2, vR x0]) rfl dX10_grows_47 mOKX10_power ⟨mlX10_72, imX10_power, seX10_power⟩ (by decide) (Nat.le_of_ble_eq_true rfl) rfl (Nat.le_of_ble_eq_true rfl) ⟨by decide, rfl⟩ o2 (sX10_power o5 ?_)
  refine e_aload_n 0 dX10_grows_50 rfl ?_
  refine e_iload_n 3 dX10_grows_51 rfl ?_
  refine e_iconst dX10_grows_52 (by unfold InR; decide) ?_
  refine e_iconst dX10_grows_53 (by unfold InR; decide) ?_
  have o6 := h.1
  replace h := h.2
  refine i_VI (μ' := MX10_power) (ci := 9) (r := x0) (as := [vI x3, vI 0, vI 1]) (st := [vI (vX10_power I19 R19 x0 292 0 1), vI (w32 ((vX10_power I19 R19 x0 292 0 0) - (vX10_power I19 R19 x0 x3 0 0))), vI x2, vR x0]) rfl dX10_grows_54 mOKX10_power ⟨mlX10_72, imX10_power, seX10_power⟩ (by decide) (Nat.le_of_ble_eq_true rfl) rfl (Nat.le_of_ble_eq_true rfl) ⟨by decide, rfl⟩ o2 (sX10_power o6 ?_)
  refine e_isub dX10_grows_57 ?_
  refine e_aload_n 0 dX10_grows_58 rfl ?_
  refine e_sipush (x := 292) dX10_grows_59 ⟨by decide +kernel, by unfold InR; decide⟩ ?_
  refine e_iconst dX10_grows_62 (by unfold InR; decide) ?_
  refine e_iconst dX10_grows_63 (by unfold InR; decide) ?_
  have o7 := h.1
  replace h := h.2
  refine i_VI (μ' := MX10_power) (ci := 9) (r := x0) (as := [vI 292, vI 0, vI 2]) (st := [vI (w32 ((vX10_power I19 R19 x0 292 0 1) - (vX10_power I19 R19 x0 x3 0 1))), vI (w32 ((vX10_power I19 R19 x0 292 0 0) - (vX10_power I19 R19 x0 x3 0 0))), vI x2, vR x0]) rfl dX10_grows_64 mOKX10_power ⟨mlX10_72, imX10_power, seX10_power⟩ (by decide) (Nat.le_of_ble_eq_true rfl) rfl (Nat.le_of_ble_eq_true rfl) ⟨by decide, rfl⟩ o2 (sX10_power o7 ?_)
  refine e_aload_n 0 dX10_grows_67 rfl ?_
  refine e_iload_n 3 dX10_grows_68 rfl ?_
  refine e_iconst dX10_grows_69 (by unfold InR; decide) ?_
  refine e_iconst dX10_grows_70 (by unfold InR; decide) ?_
  have o8 := h.1
  replace h := h.2
  refine i_VI (μ' := MX10_power) (ci := 9) (r := x0) (as := [vI x3, vI 0, vI 2]) (st := [vI (vX10_power I19 R19 x0 292 0 2), vI (w32 ((vX10_power I19 R19 x0 292 0 1) - (vX10_power I19 R19 x0 x3 0 1))), vI (w32 ((vX10_power I19 R19 x0 292 0 0) - (vX10_power I19 R19 x0 x3 0 0))), vI x2, vR x0]) rfl dX10_grows_71 mOKX10_power ⟨mlX10_72, imX10_power, seX10_power⟩ (by decide) (Nat.le_of_ble_eq_true rfl) rfl (Nat.le_of_ble_eq_true rfl) ⟨by decide, rfl⟩ o2 (sX10_power o8 ?_)
  refine e_isub dX10_grows_74 ?_
  refine i_VV (μ' := MX10_heaps) (ci := 9) (r := x0) (as := [vI x2, vI (w32 ((vX10_power I19 R19 x0 292 0 0) - (vX10_power I19 R19 x0 x3 0 0))), vI (w32 ((vX10_power I19 R19 x0 292 0 1) - (vX10_power I19 R19 x0 x3 0 1))), vI (w32 ((vX10_power I19 R19 x0 292 0 2) - (vX10_power I19 R19 x0 x3 0 2)))]) (st := []) rfl dX10_grows_75 mOKX10_heaps ⟨mlX10_100, imX10_heaps, seX10_heaps⟩ (by decide) (Nat.le_of_ble_eq_true rfl) rfl (Nat.le_of_ble_eq_true rfl) ⟨by decide, rfl⟩ o2 (CV.mono h ?_)
  clear h
  intro S75 I75 R75 h
  refine e_aload_n 0 dX10_grows_78 rfl ?_
  refine e_sipush (x := 290) dX10_grows_79 ⟨by decide +kernel, by unfold InR; decide⟩ ?_
  have o9 := h.1
  replace h := h.2
  refine i_VI (μ' := MX10_takes) (ci := 9) (r := x0) (as := [vI 290]) (st := []) rfl dX10_grows_82 mOKX10_takes ⟨mlX10_128, imX10_takes, seX10_takes⟩ (by decide) (Nat.le_of_ble_eq_true rfl) rfl (Nat.le_of_ble_eq_true rfl) ⟨by decide, rfl⟩ o9 (CI.mono h ?_)
  clear h
  intro S82 I82 R82 x82_ h
  refine e_if_ne (tgt := 90) dX10_grows_85 (by decide) (fun c => ?_) (fun c => ?_)
  · replace h := h.1 c
    refine e_aload_n 0 dX10_grows_90 rfl ?_
    refine e_sipush (x := 290) dX10_grows_91 ⟨by decide +kernel, by unfold InR; decide⟩ ?_
    refine e_aload_n 0 dX10_grows_94 rfl ?_
    refine e_bipush (x := 21) dX10_grows_95 ⟨by decide +kernel, by unfold InR; decide⟩ ?_
    refine e_iconst dX10_grows_97 (by unfold InR; decide) ?_
    refine e_iload_n 1 dX10_grows_98 rfl ?_
    refine e_iadd dX10_grows_99 ?_
    have o10 := h.1
    replace h := h.2
    refine i_VI (μ' := MX10_rowOf) (ci := 9) (r := x0) (as := [vI 21, vI (w32 (2 + x1))]) (st := [vI 290, vR x0]) rfl dX10_grows_100 mOKX10_rowOf ⟨mlX10_231, imX10_rowOf, seX10_rowOf⟩ (by decide) (Nat.le_of_ble_eq_true rfl) rfl (Nat.le_of_ble_eq_true rfl) ⟨by decide, rfl⟩ o10 (sX10_rowOf ?_)
    refine i_VV (μ' := MX10_copies) (ci := 9) (r := x0) (as := [vI 290, vI (vX10_rowOf x0 21 (w32 (2 + x1)))]) (st := []) rfl dX10_grows_103 mOKX10_copies ⟨mlX10_198, imX10_copies, seX10_copies⟩ (by decide) (Nat.le_of_ble_eq_true rfl) rfl (Nat.le_of_ble_eq_true rfl) ⟨by decide, rfl⟩ o10 (CV.mono h ?_)
    clear h
    intro S103 I103 R103 h
    refine e_iconst dX10_grows_106 (by unfold InR; decide) ?_
    exact e_zreturn dX10_grows_107 rfl (by decide) ⟨_, rfl, h⟩
  · replace h := h.2 c
    refine e_iconst dX10_grows_88 (by unfold InR; decide) ?_
    exact e_zreturn dX10_grows_89 rfl (by decide) ⟨_, rfl, h⟩

def LX10_carries_3 (G : Gl) (x0 : Nat) (x1 : Int) (x2 : Int) (x3 : Int) (x4 : Int) (S : Sh) (I : MI) (R : MR) (Q : Sh → MI → MR → Int → Prop) : Prop := E G MX10_carries 3 [(0, vR x0), (1, vI x1), (2, vI x2), (3, vI x3), (4, vI x4)] [] S I R (qI Q)
set_option maxRecDepth 100000 in
set_option maxHeartbeats 4000000 in
theorem bX10_carries {G : Gl} {S : Sh} {I : MI} {R : MR} {Q : Sh → MI → MR → Int → Prop} {x0 : Nat} {x1 : Int} {x2 : Int} {x3 : Int} (h : LX10_carries_3 G x0 x1 x2 x3 1 S I R Q) : CI G MX10_carries [vR x0, vI x1, vI x2, vI x3] S I R Q := by
  show E G MX10_carries 0 [(0, vR x0), (1, vI x1), (2, vI x2), (3, vI x3)] [] S I R (qI Q)
  refine e_iconst dX10_carries_0 (by unfold InR; decide) ?_
  refine e_istore (ls2 := [(4, vI 1), (0, vR x0), (1, vI x1), (2, vI x2), (3, vI x3)]) dX10_carries_1 (by decide) rfl ?_
  exact e_sub (ls2 := [(0, vR x0), (1, vI x1), (2, vI x2), (3, vI x3), (4, vI 1)]) [1, 2, 3, 4, 0] rfl h
set_option maxRecDepth 100000 in
set_option maxHeartbeats 4000000 in
theorem bX10_carries_3 {G : Gl} {S : Sh} {I : MI} {R : MR} {Q : Sh → MI → MR → Int → Prop} {x0 : Nat} {x1 : Int} {x2 : Int} {x3 : Int} {x4 : Int} (h : (sT S x0 = 10 ∧ (((w32 (2 + (I x0 23))) ≤ x4 → Q S I R 1) ∧ (¬ ((w32 (2 + (I x0 23))) ≤ x4) → (CI G MX10_lessens [vR x0, vI (vX10_rowOf x0 21 x4), vI (vX10_rowOf x0 x1 x4), vI x2, vI 292, vI x3] S I R (fun S35 I35 R35 x35_ => ((x35_ ≠ 0 → (sT S35 x0 = 10 ∧ (CV G MX10_copies [vR x0, vI 290, vI (vX10_rowOf x0 21 x4)] S35 I35 R35 (fun S55 I55 R55 => LX10_carries_3 G x0 x1 x2 x3 (w32 (x4 + 1)) S55 I55 R55 Q)))) ∧ (¬ (x35_ ≠ 0) → Q S35 I35 R35 0)))))))) : LX10_carries_3 G x0 x1 x2 x3 x4 S I R Q := by
  show E G MX10_carries 3 [(0, vR x0), (1, vI x1), (2, vI x2), (3, vI x3), (4, vI x4)] [] S I R (qI Q)
  refine e_iload 4 dX10_carries_3 rfl ?_
  refine e_iconst dX10_carries_5 (by unfold InR; decide) ?_
  refine e_aload_n 0 dX10_carries_6 rfl ?_
  have o1 := h.1
  replace h := h.2
  refine e_getI dX10_carries_7 flX10_241 rfl o1 ?_
  refine e_iadd dX10_carries_10 ?_
  refine e_icmp_ge (tgt := 64) dX10_carries_11 (by decide) (fun c => ?_) (fun c => ?_)
  · replace h := h.1 c
    refine e_iconst dX10_carries_64 (by unfold InR; decide) ?_
    exact e_zreturn dX10_carries_65 rfl (by decide) ⟨_, rfl, h⟩
  · replace h := h.2 c
    refine e_aload_n 0 dX10_carries_14 rfl ?_
    refine e_aload_n 0 dX10_carries_15 rfl ?_
    refine e_bipush (x := 21) dX10_carries_16 ⟨by decide +kernel, by unfold InR; decide⟩ ?_
    refine e_iload 4 dX10_carries_18 rfl ?_
    refine i_VI (μ' := MX10_rowOf) (ci := 9) (r := x0) (as := [vI 21, vI x4]) (st := [vR x0]) rfl dX10_carries_20 mOKX10_rowOf ⟨mlX10_231, imX10_rowOf, seX10_rowOf⟩ (by decide) (Nat.le_of_ble_eq_true rfl) rfl (Nat.le_of_ble_eq_true rfl) ⟨by decide, rfl⟩ o1 (sX10_rowOf ?_)
    refine e_aload_n 0 dX10_carries_23 rfl ?_
    refine e_iload_n 1 dX10_carries_24 rfl ?_
    refine e_iload 4 dX10_carries_25 rfl ?_
    refine i_VI (μ' := MX10_rowOf) (ci := 9) (r := x0) (as := [vI x1, vI x4]) (st := [vI (vX10_rowOf x0 21 x4), vR x0]) rfl dX10_carries_27 mOKX10_rowOf ⟨mlX10_231, imX10_rowOf, seX10_rowOf⟩ (by decide) (Nat.le_of_ble_eq_true rfl) rfl (Nat.le_of_ble_eq_true rfl) ⟨by decide, rfl⟩ o1 (sX10_rowOf ?_)
    refine e_iload_n 2 dX10_carries_30 rfl ?_
    refine e_sipush (x := 292) dX10_carries_31 ⟨by decide +kernel, by unfold InR; decide⟩ ?_
    refine e_iload_n 3 dX10_carries_34 rfl ?_
    refine i_VI (μ' := MX10_lessens) (ci := 9) (r := x0) (as := [vI (vX10_rowOf x0 21 x4), vI (vX10_rowOf x0 x1 x4), vI x2, vI 292, vI x3]) (st := []) rfl dX10_carries_35 mOKX10_lessens ⟨mlX10_247, imX10_lessens, seX10_lessens⟩ (by decide) (Nat.le_of_ble_eq_true rfl) rfl (Nat.le_of_ble_eq_true rfl) ⟨by decide, rfl⟩ o1 (CI.mono h ?_)
    clear h
    intro S35 I35 R35 x35_ h
    refine e_if_ne (tgt := 43) dX10_carries_38 (by decide) (fun c => ?_) (fun c => ?_)
    · replace h := h.1 c
      refine e_aload_n 0 dX10_carries_43 rfl ?_
      refine e_sipush (x := 290) dX10_carries_44 ⟨by decide +kernel, by unfold InR; decide⟩ ?_
      refine e_aload_n 0 dX10_carries_47 rfl ?_
      refine e_bipush (x := 21) dX10_carries_48 ⟨by decide +kernel, by unfold InR; decide⟩ ?_
      refine e_iload 4 dX10_carries_50 rfl ?_
      have o2 := h.1
      replace h := h.2
      refine i_VI (μ' := MX10_rowOf) (ci := 9) (r := x0) (as := [vI 21, vI x4]) (st := [vI 290, vR x0]) rfl dX10_carries_52 mOKX10_rowOf ⟨mlX10_231, imX10_rowOf, seX10_rowOf⟩ (by decide) (Nat.le_of_ble_eq_true rfl) rfl (Nat.le_of_ble_eq_true rfl) ⟨by decide, rfl⟩ o2 (sX10_rowOf ?_)
      refine i_VV (μ' := MX10_copies) (ci := 9) (r := x0) (as := [vI 290, vI (vX10_rowOf x0 21 x4)]) (st := []) rfl dX10_carries_55 mOKX10_copies ⟨mlX10_198, imX10_copies, seX10_copies⟩ (by decide) (Nat.le_of_ble_eq_true rfl) rfl (Nat.le_of_ble_eq_true rfl) ⟨by decide, rfl⟩ o2 (CV.mono h ?_)
      clear h
      intro S55 I55 R55 h
      refine e_iinc (ls2 := [(4, vI (w32 (x4 + 1))), (0, vR x0), (1, vI x1), (2, vI x2), (3, vI x3)]) 4 dX10_carries_58 rfl (by decide) rfl ?_
      refine e_goto (tgt := 3) dX10_carries_61 (by decide) ?_
      exact e_sub (ls2 := [(0, vR x0), (1, vI x1), (2, vI x2), (3, vI x3), (4, vI (w32 (x4 + 1)))]) [1, 2, 3, 4, 0] rfl h
    · replace h := h.2 c
      refine e_iconst dX10_carries_41 (by unfold InR; decide) ?_
      exact e_zreturn dX10_carries_42 rfl (by decide) ⟨_, rfl, h⟩

def LX10_steps_62 (G : Gl) (x0 : Nat) (x1 : Int) (x2 : Int) (x3 : Int) (x4 : Int) (S : Sh) (I : MI) (R : MR) (Q : Sh → MI → MR → Int → Prop) : Prop := E G MX10_steps 62 [(0, vR x0), (1, vI x1), (2, vI x2), (3, vI x3), (4, vI x4)] [] S I R (qI Q)
def LX10_steps_132 (G : Gl) (x0 : Nat) (x1 : Int) (x2 : Int) (x3 : Int) (x4 : Int) (y0 : Int) (y1 : Int) (y2 : Nat) (S : Sh) (I : MI) (R : MR) (Q : Sh → MI → MR → Int → Prop) : Prop := E G MX10_steps 132 [(0, vR x0), (1, vI x1), (2, vI x2), (3, vI x3), (4, vI x4)] [vI y0, vI y1, vR y2] S I R (qI Q)
def LX10_steps_218 (G : Gl) (x0 : Nat) (x1 : Int) (x2 : Int) (x3 : Int) (S : Sh) (I : MI) (R : MR) (Q : Sh → MI → MR → Int → Prop) : Prop := E G MX10_steps 218 [(0, vR x0), (1, vI x1), (2, vI x2), (3, vI x3)] [] S I R (qI Q)
def LX10_steps_169 (G : Gl) (x0 : Nat) (x1 : Int) (x2 : Int) (x3 : Int) (x5 : Int) (S : Sh) (I : MI) (R : MR) (Q : Sh → MI → MR → Int → Prop) : Prop := E G MX10_steps 169 [(0, vR x0), (1, vI x1), (2, vI x2), (3, vI x3), (5, vI x5)] [] S I R (qI Q)
set_option maxRecDepth 100000 in
set_option maxHeartbeats 4000000 in
theorem bX10_steps {G : Gl} {S : Sh} {I : MI} {R : MR} {Q : Sh → MI → MR → Int → Prop} {x0 : Nat} {x1 : Int} (h : (sT S x0 = 10 ∧ (((I x0 25) ≠ 40 → ((pX10_ecart S I R x0 (vX10_rowOf x0 x1 0)) ∧ ((pX10_ecart S I R x0 (vX10_rowOf x0 21 0)) ∧ (((vX10_ecart I R x0 (vX10_rowOf x0 x1 0)) ≤ (vX10_ecart I R x0 (vX10_rowOf x0 21 0)) → LX10_steps_62 G x0 x1 (vX10_rowOf x0 21 0) (vX10_rowOf x0 x1 0) 0 S I R Q) ∧ (¬ ((vX10_ecart I R x0 (vX10_rowOf x0 x1 0)) ≤ (vX10_ecart I R x0 (vX10_rowOf x0 21 0))) → (((I x0 24) ≠ 20 → LX10_steps_62 G x0 x1 (vX10_rowOf x0 21 0) (vX10_rowOf x0 x1 0) 1 S I R Q) ∧ (¬ ((I x0 24) ≠ 20) → Q S I R 0))))))) ∧ (¬ ((I x0 25) ≠ 40) → Q S I R 0)))) : CI G MX10_steps [vR x0, vI x1] S I R Q := by
  show E G MX10_steps 0 [(0, vR x0), (1, vI x1)] [] S I R (qI Q)
  refine e_aload_n 0 dX10_steps_0 rfl ?_
  refine e_bipush (x := 21) dX10_steps_1 ⟨by decide +kernel, by unfold InR; decide⟩ ?_
  refine e_iconst dX10_steps_3 (by unfold InR; decide) ?_
  have o1 := h.1
  replace h := h.2
  refine i_VI (μ' := MX10_rowOf) (ci := 9) (r := x0) (as := [vI 21, vI 0]) (st := []) rfl dX10_steps_4 mOKX10_rowOf ⟨mlX10_231, imX10_rowOf, seX10_rowOf⟩ (by decide) (Nat.le_of_ble_eq_true rfl) rfl (Nat.le_of_ble_eq_true rfl) ⟨by decide, rfl⟩ o1 (sX10_rowOf ?_)
  refine e_istore_n (ls2 := [(2, vI (vX10_rowOf x0 21 0)), (0, vR x0), (1, vI x1)]) dX10_steps_7 (by decide) rfl ?_
  refine e_aload_n 1 dX10_steps_8 rfl ?_
  refine e_iload_n 2 dX10_steps_9 rfl ?_
  refine e_iconst dX10_steps_10 (by unfold InR; decide) ?_
  refine i_VI (μ' := MX10_rowOf) (ci := 9) (r := x0) (as := [vI x1, vI 0]) (st := []) rfl dX10_steps_11 mOKX10_rowOf ⟨mlX10_231, imX10_rowOf, seX10_rowOf⟩ (by decide) (Nat.le_of_ble_eq_true rfl) rfl (Nat.le_of_ble_eq_true rfl) ⟨by decide, rfl⟩ o1 (sX10_rowOf ?_)
  refine e_istore_n (ls2 := [(3, vI (vX10_rowOf x0 x1 0)), (2, vI (vX10_rowOf x0 21 0)), (0, vR x0), (1, vI x1)]) dX10_steps_14 (by decide) rfl ?_
  refine e_aload_n 2 dX10_steps_15 rfl ?_
  refine e_getI dX10_steps_16 flX10_238 rfl o1 ?_
  refine e_bipush (x := 40) dX10_steps_19 ⟨by decide +kernel, by unfold InR; decide⟩ ?_
  refine e_icmp_ne (tgt := 26) dX10_steps_21 (by decide) (fun c => ?_) (fun c => ?_)
  · replace h := h.1 c
    refine e_aload_n 2 dX10_steps_26 rfl ?_
    refine e_iload_n 0 dX10_steps_27 rfl ?_
    have o2 := h.1
    replace h := h.2
    refine i_VI (μ' := MX10_ecart) (ci := 9) (r := x0) (as := [vI (vX10_rowOf x0 x1 0)]) (st := []) rfl dX10_steps_28 mOKX10_ecart ⟨mlX10_213, imX10_ecart, seX10_ecart⟩ (by decide) (Nat.le_of_ble_eq_true rfl) rfl (Nat.le_of_ble_eq_true rfl) ⟨by decide, rfl⟩ o1 (sX10_ecart o2 ?_)
    refine e_aload_n 2 dX10_steps_31 rfl ?_
    refine e_iload_n 1 dX10_steps_32 rfl ?_
    have o3 := h.1
    replace h := h.2
    refine i_VI (μ' := MX10_ecart) (ci := 9) (r := x0) (as := [vI (vX10_rowOf x0 21 0)]) (st := [vI (vX10_ecart I R x0 (vX10_rowOf x0 x1 0))]) rfl dX10_steps_33 mOKX10_ecart ⟨mlX10_213, imX10_ecart, seX10_ecart⟩ (by decide) (Nat.le_of_ble_eq_true rfl) rfl (Nat.le_of_ble_eq_true rfl) ⟨by decide, rfl⟩ o1 (sX10_ecart o3 ?_)
    refine e_icmp_le (tgt := 43) dX10_steps_36 (by decide) (fun c => ?_) (fun c => ?_)
    · replace h := h.1 c
      refine e_iconst dX10_steps_43 (by unfold InR; decide) ?_
      refine e_istore (ls2 := [(4, vI 0), (3, vI (vX10_rowOf x0 x1 0)), (2, vI (vX10_rowOf x0 21 0)), (0, vR x0), (1, vI x1)]) dX10_steps_44 (by decide) rfl ?_
      refine e_iload 0 dX10_steps_46 rfl ?_
      refine e_if_eq (tgt := 62) dX10_steps_48 (by decide) (fun _ => ?_) (fun c => absurd (by decide) c)
      exact e_sub (ls2 := [(0, vR x0), (1, vI x1), (2, vI (vX10_rowOf x0 21 0)), (3, vI (vX10_rowOf x0 x1 0)), (4, vI 0)]) [3, 4, 2, 1, 0] rfl h
    · replace h := h.2 c
      refine e_iconst dX10_steps_39 (by unfold InR; decide) ?_
      refine e_goto (tgt := 44) dX10_steps_40 (by decide) ?_
      refine e_istore (ls2 := [(4, vI 1), (3, vI (vX10_rowOf x0 x1 0)), (2, vI (vX10_rowOf x0 21 0)), (0, vR x0), (1, vI x1)]) dX10_steps_44 (by decide) rfl ?_
      refine e_iload 0 dX10_steps_46 rfl ?_
      refine e_if_eq (tgt := 62) dX10_steps_48 (by decide) (fun c => absurd c (by decide)) (fun _ => ?_)
      refine e_aload_n 3 dX10_steps_51 rfl ?_
      refine e_getI dX10_steps_52 flX10_228 rfl o1 ?_
      refine e_bipush (x := 20) dX10_steps_55 ⟨by decide +kernel, by unfold InR; decide⟩ ?_
      refine e_icmp_ne (tgt := 62) dX10_steps_57 (by decide) (fun c => ?_) (fun c => ?_)
      · replace h := h.1 c
        exact e_sub (ls2 := [(0, vR x0), (1, vI x1), (2, vI (vX10_rowOf x0 21 0)), (3, vI (vX10_rowOf x0 x1 0)), (4, vI 1)]) [3, 4, 2, 1, 0] rfl h
      · replace h := h.2 c
        refine e_iconst dX10_steps_60 (by unfold InR; decide) ?_
        exact e_zreturn dX10_steps_61 rfl (by decide) ⟨_, rfl, h⟩
  · replace h := h.2 c
    refine e_iconst dX10_steps_24 (by unfold InR; decide) ?_
    exact e_zreturn dX10_steps_25 rfl (by decide) ⟨_, rfl, h⟩
set_option maxRecDepth 100000 in
set_option maxHeartbeats 4000000 in
theorem bX10_steps_62 {G : Gl} {S : Sh} {I : MI} {R : MR} {Q : Sh → MI → MR → Int → Prop} {x0 : Nat} {x1 : Int} {x2 : Int} {x3 : Int} {x4 : Int} (h : (sT S x0 = 10 ∧ (sT S (R x0 26) = 21 ∧ (((0 : Int) ≤ (w32 (5 * (I x0 25))) ∧ (w32 (5 * (I x0 25))) < (sL S (R x0 26) : Int)) ∧ (∀ I73, I73 = up2 I (R x0 26) (Int.toNat (w32 (5 * (I x0 25)))) x1 → ((pX10_ecart S I73 R x0 x3) ∧ (((0 : Int) ≤ (w32 ((w32 (5 * (I73 x0 25))) + 1)) ∧ (w32 ((w32 (5 * (I73 x0 25))) + 1)) < (sL S (R x0 26) : Int)) ∧ (∀ I91, I91 = up2 I73 (R x0 26) (Int.toNat (w32 ((w32 (5 * (I73 x0 25))) + 1))) (vX10_ecart I73 R x0 x3) → ((pX10_ecart S I91 R x0 x2) ∧ (((0 : Int) ≤ (w32 ((w32 (5 * (I91 x0 25))) + 2)) ∧ (w32 ((w32 (5 * (I91 x0 25))) + 2)) < (sL S (R x0 26) : Int)) ∧ (∀ I109, I109 = up2 I91 (R x0 26) (Int.toNat (w32 ((w32 (5 * (I91 x0 25))) + 2))) (vX10_ecart I91 R x0 x2) → ((x4 = 0 → LX10_steps_132 G x0 x1 x2 x3 x4 0 (w32 ((w32 (5 * (I109 x0 25))) + 3)) (R x0 26) S I109 R Q) ∧ (¬ (x4 = 0) → LX10_steps_132 G x0 x1 x2 x3 x4 1 (w32 ((w32 (5 * (I109 x0 25))) + 3)) (R x0 26) S I109 R Q))))))))))))) : LX10_steps_62 G x0 x1 x2 x3 x4 S I R Q := by
  show E G MX10_steps 62 [(0, vR x0), (1, vI x1), (2, vI x2), (3, vI x3), (4, vI x4)] [] S I R (qI Q)
  refine e_aload_n 0 dX10_steps_62 rfl ?_
  have o4 := h.1
  replace h := h.2
  refine e_getR dX10_steps_63 flX10_49 rfl o4 ?_
  refine e_iconst dX10_steps_66 (by unfold InR; decide) ?_
  refine e_aload_n 0 dX10_steps_67 rfl ?_
  refine e_getI dX10_steps_68 flX10_238 rfl o4 ?_
  refine e_imul dX10_steps_71 ?_
  refine e_iload_n 1 dX10_steps_72 rfl ?_
  have o5 := h.1
  replace h := h.2
  have o6 := h.1
  replace h := h.2
  obtain ⟨I73, eI73⟩ : ∃ z : MI, z = up2 I (R x0 26) (Int.toNat (w32 (5 * (I x0 25)))) x1 := ⟨_, rfl⟩
  replace h := h I73 eI73
  refine e_iast dX10_steps_73 o5 o6 (eqI eI73 ?_)
  refine e_aload_n 0 dX10_steps_74 rfl ?_
  refine e_getR dX10_steps_75 flX10_49 rfl o4 ?_
  refine e_iconst dX10_steps_78 (by unfold InR; decide) ?_
  refine e_aload_n 0 dX10_steps_79 rfl ?_
  refine e_getI dX10_steps_80 flX10_238 rfl o4 ?_
  refine e_imul dX10_steps_83 ?_
  refine e_iconst dX10_steps_84 (by unfold InR; decide) ?_
  refine e_iadd dX10_steps_85 ?_
  refine e_aload_n 0 dX10_steps_86 rfl ?_
  refine e_iload_n 3 dX10_steps_87 rfl ?_
  have o7 := h.1
  replace h := h.2
  refine i_VI (μ' := MX10_ecart) (ci := 9) (r := x0) (as := [vI x3]) (st := [vI (w32 ((w32 (5 * (I73 x0 25))) + 1)), vR (R x0 26)]) rfl dX10_steps_88 mOKX10_ecart ⟨mlX10_213, imX10_ecart, seX10_ecart⟩ (by decide) (Nat.le_of_ble_eq_true rfl) rfl (Nat.le_of_ble_eq_true rfl) ⟨by decide, rfl⟩ o4 (sX10_ecart o7 ?_)
  have o8 := h.1
  replace h := h.2
  obtain ⟨I91, eI91⟩ : ∃ z : MI, z = up2 I73 (R x0 26) (Int.toNat (w32 ((w32 (5 * (I73 x0 25))) + 1))) (vX10_ecart I73 R x0 x3) := ⟨_, rfl⟩
  replace h := h I91 eI91
  refine e_iast dX10_steps_91 o5 o8 (eqI eI91 ?_)
  refine e_aload_n 0 dX10_steps_92 rfl ?_
  refine e_getR dX10_steps_93 flX10_49 rfl o4 ?_
  refine e_iconst dX10_steps_96 (by unfold InR; decide) ?_
  refine e_aload_n 0 dX10_steps_97 rfl ?_
  refine e_getI dX10_steps_98 flX10_238 rfl o4 ?_
  refine e_imul dX10_steps_101 ?_
  refine e_iconst dX10_steps_102 (by unfold InR; decide) ?_
  refine e_iadd dX10_steps_103 ?_
  refine e_aload_n 0 dX10_steps_104 rfl ?_
  refine e_iload_n 2 dX10_steps_105 rfl ?_
  have o9 := h.1
  replace h := h.2
  refine i_VI (μ' := MX10_ecart) (ci := 9) (r := x0) (as := [vI x2]) (st := [vI (w32 ((w32 (5 * (I91 x0 25))) + 2)), vR (R x0 26)]) rfl dX10_steps_106 mOKX10_ecart ⟨mlX10_213, imX10_ecart, seX10_ecart⟩ (by decide) (Nat.le_of_ble_eq_true rfl) rfl (Nat.le_of_ble_eq_true rfl) ⟨by decide, rfl⟩ o4 (sX10_ecart o9 ?_)
  have o10 := h.1
  replace h := h.2
  obtain ⟨I109, eI109⟩ : ∃ z : MI, z = up2 I91 (R x0 26) (Int.toNat (w32 ((w32 (5 * (I91 x0 25))) + 2))) (vX10_ecart I91 R x0 x2) := ⟨_, rfl⟩
  replace h := h I109 eI109
  refine e_iast dX10_steps_109 o5 o10 (eqI eI109 ?_)
  refine e_aload_n 0 dX10_steps_110 rfl ?_
  refine e_getR dX10_steps_111 flX10_49 rfl o4 ?_
  refine e_iconst dX10_steps_114 (by unfold InR; decide) ?_
  refine e_aload_n 0 dX10_steps_115 rfl ?_
  refine e_getI dX10_steps_116 flX10_238 rfl o4 ?_
  refine e_imul dX10_steps_119 ?_
  refine e_iconst dX10_steps_120 (by unfold InR; decide) ?_
  refine e_iadd dX10_steps_121 ?_
  refine e_iload 4 dX10_steps_122 rfl ?_
  refine e_if_eq (tgt := 131) dX10_steps_124 (by decide) (fun c => ?_) (fun c => ?_)
  · replace h := h.1 c
    refine e_iconst dX10_steps_131 (by unfold InR; decide) ?_
    exact e_sub (ls2 := [(0, vR x0), (1, vI x1), (2, vI x2), (3, vI x3), (4, vI x4)]) [0, 1, 2, 3, 4] rfl h
  · replace h := h.2 c
    refine e_iconst dX10_steps_127 (by unfold InR; decide) ?_
    refine e_goto (tgt := 132) dX10_steps_128 (by decide) ?_
    exact e_sub (ls2 := [(0, vR x0), (1, vI x1), (2, vI x2), (3, vI x3), (4, vI x4)]) [0, 1, 2, 3, 4] rfl h
set_option maxRecDepth 100000 in
set_option maxHeartbeats 4000000 in
theorem bX10_steps_132 {G : Gl} {S : Sh} {I : MI} {R : MR} {Q : Sh → MI → MR → Int → Prop} {x0 : Nat} {x1 : Int} {x2 : Int} {x3 : Int} {x4 : Int} {y0 : Int} {y1 : Int} {y2 : Nat} (h : (sT S y2 = 21 ∧ (((0 : Int) ≤ y1 ∧ y1 < (sL S y2 : Int)) ∧ (∀ I132, I132 = up2 I y2 (Int.toNat y1) y0 → (sT S x0 = 10 ∧ ((pX10_low S I132 R x0 x2) ∧ (sT S (R x0 26) = 21 ∧ (((0 : Int) ≤ (w32 ((w32 (5 * (I132 x0 25))) + 4)) ∧ (w32 ((w32 (5 * (I132 x0 25))) + 4)) < (sL S (R x0 26) : Int)) ∧ (∀ I150, I150 = up2 I132 (R x0 26) (Int.toNat (w32 ((w32 (5 * (I132 x0 25))) + 4))) (vX10_low I132 R x0 x2) → (∀ I158, I158 = up2 I150 x0 25 (w32 ((I150 x0 25) + 1)) → ((x4 = 0 → LX10_steps_218 G x0 x1 x2 x3 S I158 R Q) ∧ (¬ (x4 = 0) → LX10_steps_169 G x0 x1 x2 x3 0 S I158 R Q)))))))))))) : LX10_steps_132 G x0 x1 x2 x3 x4 y0 y1 y2 S I R Q := by
  show E G MX10_steps 132 [(0, vR x0), (1, vI x1), (2, vI x2), (3, vI x3), (4, vI x4)] [vI y0, vI y1, vR y2] S I R (qI Q)
  have o11 := h.1
  replace h := h.2
  have o12 := h.1
  replace h := h.2
  obtain ⟨I132, eI132⟩ : ∃ z : MI, z = up2 I y2 (Int.toNat y1) y0 := ⟨_, rfl⟩
  replace h := h I132 eI132
  refine e_iast dX10_steps_132 o11 o12 (eqI eI132 ?_)
  refine e_aload_n 0 dX10_steps_133 rfl ?_
  have o13 := h.1
  replace h := h.2
  refine e_getR dX10_steps_134 flX10_49 rfl o13 ?_
  refine e_iconst dX10_steps_137 (by unfold InR; decide) ?_
  refine e_aload_n 0 dX10_steps_138 rfl ?_
  refine e_getI dX10_steps_139 flX10_238 rfl o13 ?_
  refine e_imul dX10_steps_142 ?_
  refine e_iconst dX10_steps_143 (by unfold InR; decide) ?_
  refine e_iadd dX10_steps_144 ?_
  refine e_aload_n 0 dX10_steps_145 rfl ?_
  refine e_iload_n 2 dX10_steps_146 rfl ?_
  have o14 := h.1
  replace h := h.2
  refine i_VI (μ' := MX10_low) (ci := 9) (r := x0) (as := [vI x2]) (st := [vI (w32 ((w32 (5 * (I132 x0 25))) + 4)), vR (R x0 26)]) rfl dX10_steps_147 mOKX10_low ⟨mlX10_86, imX10_low, seX10_low⟩ (by decide) (Nat.le_of_ble_eq_true rfl) rfl (Nat.le_of_ble_eq_true rfl) ⟨by decide, rfl⟩ o13 (sX10_low o14 ?_)
  have o15 := h.1
  replace h := h.2
  have o16 := h.1
  replace h := h.2
  obtain ⟨I150, eI150⟩ : ∃ z : MI, z = up2 I132 (R x0 26) (Int.toNat (w32 ((w32 (5 * (I132 x0 25))) + 4))) (vX10_low I132 R x0 x2) := ⟨_, rfl⟩
  replace h := h I150 eI150
  refine e_iast dX10_steps_150 o15 o16 (eqI eI150 ?_)
  refine e_aload_n 0 dX10_steps_151 rfl ?_
  refine e_aload_n 0 dX10_steps_152 rfl ?_
  refine e_getI dX10_steps_153 flX10_238 rfl o13 ?_
  refine e_iconst dX10_steps_156 (by unfold InR; decide) ?_
  refine e_iadd dX10_steps_157 ?_
  obtain ⟨I158, eI158⟩ : ∃ z : MI, z = up2 I150 x0 25 (w32 ((I150 x0 25) + 1)) := ⟨_, rfl⟩
  replace h := h I158 eI158
  refine e_putI dX10_steps_158 flX10_238 rfl (Or.inl rfl) o13 (eqI eI158 ?_)
  refine e_iload 4 dX10_steps_161 rfl ?_
  refine e_if_eq (tgt := 218) dX10_steps_163 (by decide) (fun c => ?_) (fun c => ?_)
  · replace h := h.1 c
    exact e_sub (ls2 := [(0, vR x0), (1, vI x1), (2, vI x2), (3, vI x3)]) [0, 1, 2, 3] rfl h
  · replace h := h.2 c
    refine e_iconst dX10_steps_166 (by unfold InR; decide) ?_
    refine e_istore (ls2 := [(5, vI 0), (0, vR x0), (1, vI x1), (2, vI x2), (3, vI x3), (4, vI x4)]) dX10_steps_167 (by decide) rfl ?_
    exact e_sub (ls2 := [(0, vR x0), (1, vI x1), (2, vI x2), (3, vI x3), (5, vI 0)]) [1, 2, 3, 4, 0] rfl h
set_option maxRecDepth 100000 in
set_option maxHeartbeats 4000000 in
theorem bX10_steps_218 {G : Gl} {S : Sh} {I : MI} {R : MR} {Q : Sh → MI → MR → Int → Prop} {x0 : Nat} {x1 : Int} {x2 : Int} {x3 : Int} (h : (sT S x0 = 10 ∧ (sT S (R x0 5) = 21 ∧ (((0 : Int) ≤ (vX10_at x0 x2 0) ∧ (vX10_at x0 x2 0) < (sL S (R x0 5) : Int)) ∧ (((0 : Int) ≤ (vX10_at x0 x3 0) ∧ (vX10_at x0 x3 0) < (sL S (R x0 5) : Int)) ∧ (CI G MX10_turned [vR x0, vI (I (R x0 5) (Int.toNat (vX10_at x0 x3 0)))] S I R (fun S242 I242 R242 x242_ => (sT S242 x0 = 10 ∧ ((I242 x0 2) ≠ 0 ∧ (CV G MX10_copies [vR x0, vI x2, vI 292] S242 I242 R242 (fun S261 I261 R261 => (sT S261 x0 = 10 ∧ (CI G MX10_lessens [vR x0, vI x2, vI x3, vI (w32 (lrem (w64 ((I (R x0 5) (Int.toNat (vX10_at x0 x2 0))) * x242_)) (I242 x0 2))), vI 292, vI x3] S261 I261 R261 (fun S273 I273 R273 x273_ => ((x273_ ≠ 0 → (sT S273 x0 = 10 ∧ (CV G MX10_copies [vR x0, vI 290, vI x2] S273 I273 R273 (fun S286 I286 R286 => (sT S286 x0 = 10 ∧ (((I286 x0 23) ≤ x1 → (CI G MX10_carries [vR x0, vI x1, vI (w32 (lrem (w64 ((I (R x0 5) (Int.toNat (vX10_at x0 x2 0))) * x242_)) (I242 x0 2))), vI x3] S286 I286 R286 (fun S313 I313 R313 x313_ => ((x313_ = 0 ∨ x313_ = 1) ∧ Q S313 I313 R313 x313_)))) ∧ (¬ ((I286 x0 23) ≤ x1) → (CI G MX10_grows [vR x0, vI x1, vI (w32 (lrem (w64 ((I (R x0 5) (Int.toNat (vX10_at x0 x2 0))) * x242_)) (I242 x0 2))), vI x3] S286 I286 R286 (fun S302 I302 R302 x302_ => ((x302_ = 0 ∨ x302_ = 1) ∧ Q S302 I302 R302 x302_)))))))))) ∧ (¬ (x273_ ≠ 0) → Q S273 I273 R273 0)))))))))))))))) : LX10_steps_218 G x0 x1 x2 x3 S I R Q := by
  show E G MX10_steps 218 [(0, vR x0), (1, vI x1), (2, vI x2), (3, vI x3)] [] S I R (qI Q)
  refine e_aload_n 0 dX10_steps_218 rfl ?_
  have o17 := h.1
  replace h := h.2
  refine e_getR dX10_steps_219 flX10_23 rfl o17 ?_
  refine e_aload_n 0 dX10_steps_222 rfl ?_
  refine e_iload_n 2 dX10_steps_223 rfl ?_
  refine e_iconst dX10_steps_224 (by unfold InR; decide) ?_
  refine i_VI (μ' := MX10_at) (ci := 9) (r := x0) (as := [vI x2, vI 0]) (st := [vR (R x0 5)]) rfl dX10_steps_225 mOKX10_at ⟨mlX10_68, imX10_at, seX10_at⟩ (by decide) (Nat.le_of_ble_eq_true rfl) rfl (Nat.le_of_ble_eq_true rfl) ⟨by decide, rfl⟩ o17 (sX10_at ?_)
  have o18 := h.1
  replace h := h.2
  have o19 := h.1
  replace h := h.2
  refine e_iald dX10_steps_228 o18 o19 ?_
  refine e_i2l dX10_steps_229 ?_
  refine e_aload_n 0 dX10_steps_230 rfl ?_
  refine e_aload_n 0 dX10_steps_231 rfl ?_
  refine e_getR dX10_steps_232 flX10_23 rfl o17 ?_
  refine e_aload_n 0 dX10_steps_235 rfl ?_
  refine e_iload_n 3 dX10_steps_236 rfl ?_
  refine e_iconst dX10_steps_237 (by unfold InR; decide) ?_
  refine i_VI (μ' := MX10_at) (ci := 9) (r := x0) (as := [vI x3, vI 0]) (st := [vR (R x0 5), vR x0, vL (I (R x0 5) (Int.toNat (vX10_at x0 x2 0)))]) rfl dX10_steps_238 mOKX10_at ⟨mlX10_68, imX10_at, seX10_at⟩ (by decide) (Nat.le_of_ble_eq_true rfl) rfl (Nat.le_of_ble_eq_true rfl) ⟨by decide, rfl⟩ o17 (sX10_at ?_)
  have o20 := h.1
  replace h := h.2
  refine e_iald dX10_steps_241 o18 o20 ?_
  refine i_VI (μ' := MX10_turned) (ci := 9) (r := x0) (as := [vI (I (R x0 5) (Int.toNat (vX10_at x0 x3 0)))]) (st := [vL (I (R x0 5) (Int.toNat (vX10_at x0 x2 0)))]) rfl dX10_steps_242 mOKX10_turned ⟨mlX10_244, imX10_turned, seX10_turned⟩ (by decide) (Nat.le_of_ble_eq_true rfl) rfl (Nat.le_of_ble_eq_true rfl) ⟨by decide, rfl⟩ o17 (CI.mono h ?_)
  clear h
  intro S242 I242 R242 x242_ h
  refine e_i2l dX10_steps_245 ?_
  refine e_lmul dX10_steps_246 ?_
  refine e_aload_n 0 dX10_steps_247 rfl ?_
  have o21 := h.1
  replace h := h.2
  refine e_getI dX10_steps_248 flX10_13 rfl o21 ?_
  refine e_i2l dX10_steps_251 ?_
  have o22 := h.1
  replace h := h.2
  refine e_lrem dX10_steps_252 o22 ?_
  refine e_l2i dX10_steps_253 ?_
  refine e_istore (ls2 := [(5, vI (w32 (lrem (w64 ((I (R x0 5) (Int.toNat (vX10_at x0 x2 0))) * x242_)) (I242 x0 2)))), (0, vR x0), (1, vI x1), (2, vI x2), (3, vI x3)]) dX10_steps_254 (by decide) rfl ?_
  refine e_aload_n 1 dX10_steps_256 rfl ?_
  refine e_iload_n 3 dX10_steps_257 rfl ?_
  refine e_sipush (x := 292) dX10_steps_258 ⟨by decide +kernel, by unfold InR; decide⟩ ?_
  refine i_VV (μ' := MX10_copies) (ci := 9) (r := x0) (as := [vI x2, vI 292]) (st := []) rfl dX10_steps_261 mOKX10_copies ⟨mlX10_198, imX10_copies, seX10_copies⟩ (by decide) (Nat.le_of_ble_eq_true rfl) rfl (Nat.le_of_ble_eq_true rfl) ⟨by decide, rfl⟩ o21 (CV.mono h ?_)
  clear h
  intro S261 I261 R261 h
  refine e_aload_n 1 dX10_steps_264 rfl ?_
  refine e_iload_n 3 dX10_steps_265 rfl ?_
  refine e_iload_n 4 dX10_steps_266 rfl ?_
  refine e_iload 0 dX10_steps_267 rfl ?_
  refine e_sipush (x := 292) dX10_steps_269 ⟨by decide +kernel, by unfold InR; decide⟩ ?_
  refine e_iload_n 4 dX10_steps_272 rfl ?_
  have o23 := h.1
  replace h := h.2
  refine i_VI (μ' := MX10_lessens) (ci := 9) (r := x0) (as := [vI x2, vI x3, vI (w32 (lrem (w64 ((I (R x0 5) (Int.toNat (vX10_at x0 x2 0))) * x242_)) (I242 x0 2))), vI 292, vI x3]) (st := []) rfl dX10_steps_273 mOKX10_lessens ⟨mlX10_247, imX10_lessens, seX10_lessens⟩ (by decide) (Nat.le_of_ble_eq_true rfl) rfl (Nat.le_of_ble_eq_true rfl) ⟨by decide, rfl⟩ o23 (CI.mono h ?_)
  clear h
  intro S273 I273 R273 x273_ h
  refine e_if_ne (tgt := 281) dX10_steps_276 (by decide) (fun c => ?_) (fun c => ?_)
  · replace h := h.1 c
    refine e_aload_n 1 dX10_steps_281 rfl ?_
    refine e_sipush (x := 290) dX10_steps_282 ⟨by decide +kernel, by unfold InR; decide⟩ ?_
    refine e_iload_n 3 dX10_steps_285 rfl ?_
    have o24 := h.1
    replace h := h.2
    refine i_VV (μ' := MX10_copies) (ci := 9) (r := x0) (as := [vI 290, vI x2]) (st := []) rfl dX10_steps_286 mOKX10_copies ⟨mlX10_198, imX10_copies, seX10_copies⟩ (by decide) (Nat.le_of_ble_eq_true rfl) rfl (Nat.le_of_ble_eq_true rfl) ⟨by decide, rfl⟩ o24 (CV.mono h ?_)
    clear h
    intro S286 I286 R286 h
    refine e_iload_n 2 dX10_steps_289 rfl ?_
    refine e_aload_n 1 dX10_steps_290 rfl ?_
    have o25 := h.1
    replace h := h.2
    refine e_getI dX10_steps_291 flX10_241 rfl o25 ?_
    refine e_icmp_ge (tgt := 308) dX10_steps_294 (by decide) (fun c => ?_) (fun c => ?_)
    · replace h := h.1 c
      refine e_aload_n 1 dX10_steps_308 rfl ?_
      refine e_iload_n 2 dX10_steps_309 rfl ?_
      refine e_iload 0 dX10_steps_310 rfl ?_
      refine e_iload_n 4 dX10_steps_312 rfl ?_
      refine i_VI (μ' := MX10_carries) (ci := 9) (r := x0) (as := [vI x1, vI (w32 (lrem (w64 ((I (R x0 5) (Int.toNat (vX10_at x0 x2 0))) * x242_)) (I242 x0 2))), vI x3]) (st := []) rfl dX10_steps_313 mOKX10_carries ⟨mlX10_255, imX10_carries, seX10_carries⟩ (by decide) (Nat.le_of_ble_eq_true rfl) rfl (Nat.le_of_ble_eq_true rfl) ⟨by decide, rfl⟩ o25 (CI.mono h ?_)
      clear h
      intro S313 I313 R313 x313_ h
      exact e_zreturn dX10_steps_316 rfl h.1 ⟨_, rfl, h.2⟩
    · replace h := h.2 c
      refine e_aload_n 1 dX10_steps_297 rfl ?_
      refine e_iload_n 2 dX10_steps_298 rfl ?_
      refine e_iload 0 dX10_steps_299 rfl ?_
      refine e_iload_n 4 dX10_steps_301 rfl ?_
      refine i_VI (μ' := MX10_grows) (ci := 9) (r := x0) (as := [vI x1, vI (w32 (lrem (w64 ((I (R x0 5) (Int.toNat (vX10_at x0 x2 0))) * x242_)) (I242 x0 2))), vI x3]) (st := []) rfl dX10_steps_302 mOKX10_grows ⟨mlX10_251, imX10_grows, seX10_grows⟩ (by decide) (Nat.le_of_ble_eq_true rfl) rfl (Nat.le_of_ble_eq_true rfl) ⟨by decide, rfl⟩ o25 (CI.mono h ?_)
      clear h
      intro S302 I302 R302 x302_ h
      refine e_goto (tgt := 316) dX10_steps_305 (by decide) ?_
      exact e_zreturn dX10_steps_316 rfl h.1 ⟨_, rfl, h.2⟩
  · replace h := h.2 c
    refine e_iconst dX10_steps_279 (by unfold InR; decide) ?_
    exact e_zreturn dX10_steps_280 rfl (by decide) ⟨_, rfl, h⟩
set_option maxRecDepth 100000 in
set_option maxHeartbeats 4000000 in
theorem bX10_steps_169 {G : Gl} {S : Sh} {I : MI} {R : MR} {Q : Sh → MI → MR → Int → Prop} {x0 : Nat} {x1 : Int} {x2 : Int} {x3 : Int} {x5 : Int} (h : (sT S x0 = 10 ∧ (((w32 (2 + (I x0 23))) ≤ x5 → (∀ I215, I215 = up2 I x0 24 (w32 ((I x0 24) + 1)) → LX10_steps_218 G x0 x1 x2 x3 S I215 R Q)) ∧ (¬ ((w32 (2 + (I x0 23))) ≤ x5) → (CV G MX10_copies [vR x0, vI (vX10_rowOf x0 21 x5), vI (vX10_rowOf x0 (I x0 24) x5)] S I R (fun S199 I199 R199 => LX10_steps_169 G x0 x1 x2 x3 (w32 (x5 + 1)) S199 I199 R199 Q)))))) : LX10_steps_169 G x0 x1 x2 x3 x5 S I R Q := by
  show E G MX10_steps 169 [(0, vR x0), (1, vI x1), (2, vI x2), (3, vI x3), (5, vI x5)] [] S I R (qI Q)
  refine e_iload 4 dX10_steps_169 rfl ?_
  refine e_iconst dX10_steps_171 (by unfold InR; decide) ?_
  refine e_aload_n 0 dX10_steps_172 rfl ?_
  have o26 := h.1
  replace h := h.2
  refine e_getI dX10_steps_173 flX10_241 rfl o26 ?_
  refine e_iadd dX10_steps_176 ?_
  refine e_icmp_ge (tgt := 208) dX10_steps_177 (by decide) (fun c => ?_) (fun c => ?_)
  · replace h := h.1 c
    refine e_aload_n 0 dX10_steps_208 rfl ?_
    refine e_aload_n 0 dX10_steps_209 rfl ?_
    refine e_getI dX10_steps_210 flX10_228 rfl o26 ?_
    refine e_iconst dX10_steps_213 (by unfold InR; decide) ?_
    refine e_iadd dX10_steps_214 ?_
    obtain ⟨I215, eI215⟩ : ∃ z : MI, z = up2 I x0 24 (w32 ((I x0 24) + 1)) := ⟨_, rfl⟩
    replace h := h I215 eI215
    refine e_putI dX10_steps_215 flX10_228 rfl (Or.inl rfl) o26 (eqI eI215 ?_)
    exact e_sub (ls2 := [(0, vR x0), (1, vI x1), (2, vI x2), (3, vI x3)]) [0, 1, 2, 3] rfl h
  · replace h := h.2 c
    refine e_aload_n 0 dX10_steps_180 rfl ?_
    refine e_aload_n 0 dX10_steps_181 rfl ?_
    refine e_bipush (x := 21) dX10_steps_182 ⟨by decide +kernel, by unfold InR; decide⟩ ?_
    refine e_iload 4 dX10_steps_184 rfl ?_
    refine i_VI (μ' := MX10_rowOf) (ci := 9) (r := x0) (as := [vI 21, vI x5]) (st := [vR x0]) rfl dX10_steps_186 mOKX10_rowOf ⟨mlX10_231, imX10_rowOf, seX10_rowOf⟩ (by decide) (Nat.le_of_ble_eq_true rfl) rfl (Nat.le_of_ble_eq_true rfl) ⟨by decide, rfl⟩ o26 (sX10_rowOf ?_)
    refine e_aload_n 0 dX10_steps_189 rfl ?_
    refine e_aload_n 0 dX10_steps_190 rfl ?_
    refine e_getI dX10_steps_191 flX10_228 rfl o26 ?_
    refine e_iload 4 dX10_steps_194 rfl ?_
    refine i_VI (μ' := MX10_rowOf) (ci := 9) (r := x0) (as := [vI (I x0 24), vI x5]) (st := [vI (vX10_rowOf x0 21 x5), vR x0]) rfl dX10_steps_196 mOKX10_rowOf ⟨mlX10_231, imX10_rowOf, seX10_rowOf⟩ (by decide) (Nat.le_of_ble_eq_true rfl) rfl (Nat.le_of_ble_eq_true rfl) ⟨by decide, rfl⟩ o26 (sX10_rowOf ?_)
    refine i_VV (μ' := MX10_copies) (ci := 9) (r := x0) (as := [vI (vX10_rowOf x0 21 x5), vI (vX10_rowOf x0 (I x0 24) x5)]) (st := []) rfl dX10_steps_199 mOKX10_copies ⟨mlX10_198, imX10_copies, seX10_copies⟩ (by decide) (Nat.le_of_ble_eq_true rfl) rfl (Nat.le_of_ble_eq_true rfl) ⟨by decide, rfl⟩ o26 (CV.mono h ?_)
    clear h
    intro S199 I199 R199 h
    refine e_iinc (ls2 := [(5, vI (w32 (x5 + 1))), (0, vR x0), (1, vI x1), (2, vI x2), (3, vI x3)]) 4 dX10_steps_202 rfl (by decide) rfl ?_
    refine e_goto (tgt := 169) dX10_steps_205 (by decide) ?_
    exact e_sub (ls2 := [(0, vR x0), (1, vI x1), (2, vI x2), (3, vI x3), (5, vI (w32 (x5 + 1)))]) [1, 2, 3, 4, 0] rfl h

def LX10_begins_22 (G : Gl) (x0 : Nat) (x1 : Int) (x2 : Int) (x3 : Int) (S : Sh) (I : MI) (R : MR) (Q : Sh → MI → MR → Prop) : Prop := E G MX10_begins 22 [(0, vR x0), (1, vI x1), (2, vI x2), (3, vI x3)] [] S I R (qV Q)
def LX10_begins_144 (G : Gl) (x0 : Nat) (x3 : Int) (S : Sh) (I : MI) (R : MR) (Q : Sh → MI → MR → Prop) : Prop := E G MX10_begins 144 [(0, vR x0), (3, vI x3)] [] S I R (qV Q)
def LX10_begins_179 (G : Gl) (x0 : Nat) (x3 : Int) (S : Sh) (I : MI) (R : MR) (Q : Sh → MI → MR → Prop) : Prop := E G MX10_begins 179 [(0, vR x0), (3, vI x3)] [] S I R (qV Q)
set_option maxRecDepth 100000 in
set_option maxHeartbeats 4000000 in
theorem bX10_begins {G : Gl} {S : Sh} {I : MI} {R : MR} {Q : Sh → MI → MR → Prop} {x0 : Nat} {x1 : Int} {x2 : Int} (h : (sT S x0 = 10 ∧ (∀ I2, I2 = up2 I x0 24 0 → (∀ I7, I7 = up2 I2 x0 21 0 → (∀ I12, I12 = up2 I7 x0 22 x1 → (∀ I17, I17 = up2 I12 x0 25 0 → LX10_begins_22 G x0 x1 x2 0 S I17 R Q)))))) : CV G MX10_begins [vR x0, vI x1, vI x2] S I R Q := by
  show E G MX10_begins 0 [(0, vR x0), (1, vI x1), (2, vI x2)] [] S I R (qV Q)
  refine e_aload_n 0 dX10_begins_0 rfl ?_
  refine e_iconst dX10_begins_1 (by unfold InR; decide) ?_
  have o1 := h.1
  replace h := h.2
  obtain ⟨I2, eI2⟩ : ∃ z : MI, z = up2 I x0 24 0 := ⟨_, rfl⟩
  replace h := h I2 eI2
  refine e_putI dX10_begins_2 flX10_228 rfl (Or.inl rfl) o1 (eqI eI2 ?_)
  refine e_aload_n 0 dX10_begins_5 rfl ?_
  refine e_iconst dX10_begins_6 (by unfold InR; decide) ?_
  obtain ⟨I7, eI7⟩ : ∃ z : MI, z = up2 I2 x0 21 0 := ⟨_, rfl⟩
  replace h := h I7 eI7
  refine e_putI dX10_begins_7 flX10_258 rfl (Or.inl rfl) o1 (eqI eI7 ?_)
  refine e_aload_n 0 dX10_begins_10 rfl ?_
  refine e_iload_n 1 dX10_begins_11 rfl ?_
  obtain ⟨I12, eI12⟩ : ∃ z : MI, z = up2 I7 x0 22 x1 := ⟨_, rfl⟩
  replace h := h I12 eI12
  refine e_putI dX10_begins_12 flX10_261 rfl (Or.inl rfl) o1 (eqI eI12 ?_)
  refine e_aload_n 0 dX10_begins_15 rfl ?_
  refine e_iconst dX10_begins_16 (by unfold InR; decide) ?_
  obtain ⟨I17, eI17⟩ : ∃ z : MI, z = up2 I12 x0 25 0 := ⟨_, rfl⟩
  replace h := h I17 eI17
  refine e_putI dX10_begins_17 flX10_238 rfl (Or.inl rfl) o1 (eqI eI17 ?_)
  refine e_iconst dX10_begins_20 (by unfold InR; decide) ?_
  refine e_istore_n (ls2 := [(3, vI 0), (0, vR x0), (1, vI x1), (2, vI x2)]) dX10_begins_21 (by decide) rfl ?_
  exact e_sub (ls2 := [(0, vR x0), (1, vI x1), (2, vI x2), (3, vI 0)]) [1, 2, 3, 0] rfl h
set_option maxRecDepth 100000 in
set_option maxHeartbeats 4000000 in
theorem bX10_begins_22 {G : Gl} {S : Sh} {I : MI} {R : MR} {Q : Sh → MI → MR → Prop} {x0 : Nat} {x1 : Int} {x2 : Int} {x3 : Int} (h : ((8 ≤ x3 → (sT S x0 = 10 ∧ (∀ I96, I96 = up2 I x0 23 (I x0 24) → (CV G MX10_copies [vR x0, vI x1, vI (vX10_rowOf x0 21 0)] S I96 R (fun S108 I108 R108 => (sT S108 x0 = 10 ∧ (sT S108 (R108 x0 4) = 21 ∧ (((0 : Int) ≤ (vX10_rowOf x0 21 1) ∧ (vX10_rowOf x0 21 1) < (sL S108 (R108 x0 4) : Int)) ∧ (∀ I123, I123 = up2 I108 (R108 x0 4) (Int.toNat (vX10_rowOf x0 21 1)) 1 → (sT S108 (R108 x0 5) = 21 ∧ (((0 : Int) ≤ (vX10_at x0 (vX10_rowOf x0 21 1) 0) ∧ (vX10_at x0 (vX10_rowOf x0 21 1) 0) < (sL S108 (R108 x0 5) : Int)) ∧ (∀ I141, I141 = up2 I123 (R108 x0 5) (Int.toNat (vX10_at x0 (vX10_rowOf x0 21 1) 0)) 1 → LX10_begins_144 G x0 0 S108 I141 R108 Q)))))))))))) ∧ (¬ (8 ≤ x3) → (sT S x0 = 10 ∧ (((vX10_has x0 x2 x3) = 0 → LX10_begins_22 G x0 x1 x2 (w32 (x3 + 1)) S I R Q) ∧ (¬ ((vX10_has x0 x2 x3) = 0) → (sT S (R x0 4) = 21 ∧ (((0 : Int) ≤ x3 ∧ x3 < (sL S (R x0 4) : Int)) ∧ (((I (R x0 4) (Int.toNat x3)) ≠ 0 → (CV G MX10_copies [vR x0, vI x3, vI (vX10_rowOf x0 (I x0 24) 0)] S I R (fun S60 I60 R60 => (sT S60 x0 = 10 ∧ (∀ I72, I72 = up2 I60 x0 21 (ior (I60 x0 21) (ishl 1 x3)) → (∀ I82, I82 = up2 I72 x0 24 (w32 ((I72 x0 24) + 1)) → LX10_begins_22 G x0 x1 x2 (w32 (x3 + 1)) S60 I82 R60 Q)))))) ∧ (¬ ((I (R x0 4) (Int.toNat x3)) ≠ 0) → LX10_begins_22 G x0 x1 x2 (w32 (x3 + 1)) S I R Q)))))))))) : LX10_begins_22 G x0 x1 x2 x3 S I R Q := by
  show E G MX10_begins 22 [(0, vR x0), (1, vI x1), (2, vI x2), (3, vI x3)] [] S I R (qV Q)
  refine e_iload_n 3 dX10_begins_22 rfl ?_
  refine e_bipush (x := 8) dX10_begins_23 ⟨by decide +kernel, by unfold InR; decide⟩ ?_
  refine e_icmp_ge (tgt := 91) dX10_begins_25 (by decide) (fun c => ?_) (fun c => ?_)
  · replace h := h.1 c
    refine e_aload_n 0 dX10_begins_91 rfl ?_
    refine e_aload_n 0 dX10_begins_92 rfl ?_
    have o2 := h.1
    replace h := h.2
    refine e_getI dX10_begins_93 flX10_228 rfl o2 ?_
    obtain ⟨I96, eI96⟩ : ∃ z : MI, z = up2 I x0 23 (I x0 24) := ⟨_, rfl⟩
    replace h := h I96 eI96
    refine e_putI dX10_begins_96 flX10_241 rfl (Or.inl rfl) o2 (eqI eI96 ?_)
    refine e_aload_n 0 dX10_begins_99 rfl ?_
    refine e_iload_n 1 dX10_begins_100 rfl ?_
    refine e_aload_n 0 dX10_begins_101 rfl ?_
    refine e_bipush (x := 21) dX10_begins_102 ⟨by decide +kernel, by unfold InR; decide⟩ ?_
    refine e_iconst dX10_begins_104 (by unfold InR; decide) ?_
    refine i_VI (μ' := MX10_rowOf) (ci := 9) (r := x0) (as := [vI 21, vI 0]) (st := [vI x1, vR x0]) rfl dX10_begins_105 mOKX10_rowOf ⟨mlX10_231, imX10_rowOf, seX10_rowOf⟩ (by decide) (Nat.le_of_ble_eq_true rfl) rfl (Nat.le_of_ble_eq_true rfl) ⟨by decide, rfl⟩ o2 (sX10_rowOf ?_)
    refine i_VV (μ' := MX10_copies) (ci := 9) (r := x0) (as := [vI x1, vI (vX10_rowOf x0 21 0)]) (st := []) rfl dX10_begins_108 mOKX10_copies ⟨mlX10_198, imX10_copies, seX10_copies⟩ (by decide) (Nat.le_of_ble_eq_true rfl) rfl (Nat.le_of_ble_eq_true rfl) ⟨by decide, rfl⟩ o2 (CV.mono h ?_)
    clear h
    intro S108 I108 R108 h
    refine e_aload_n 0 dX10_begins_111 rfl ?_
    have o3 := h.1
    replace h := h.2
    refine e_getR dX10_begins_112 flX10_20 rfl o3 ?_
    refine e_aload_n 0 dX10_begins_115 rfl ?_
    refine e_bipush (x := 21) dX10_begins_116 ⟨by decide +kernel, by unfold InR; decide⟩ ?_
    refine e_iconst dX10_begins_118 (by unfold InR; decide) ?_
    refine i_VI (μ' := MX10_rowOf) (ci := 9) (r := x0) (as := [vI 21, vI 1]) (st := [vR (R108 x0 4)]) rfl dX10_begins_119 mOKX10_rowOf ⟨mlX10_231, imX10_rowOf, seX10_rowOf⟩ (by decide) (Nat.le_of_ble_eq_true rfl) rfl (Nat.le_of_ble_eq_true rfl) ⟨by decide, rfl⟩ o3 (sX10_rowOf ?_)
    refine e_iconst dX10_begins_122 (by unfold InR; decide) ?_
    have o4 := h.1
    replace h := h.2
    have o5 := h.1
    replace h := h.2
    obtain ⟨I123, eI123⟩ : ∃ z : MI, z = up2 I108 (R108 x0 4) (Int.toNat (vX10_rowOf x0 21 1)) 1 := ⟨_, rfl⟩
    replace h := h I123 eI123
    refine e_iast dX10_begins_123 o4 o5 (eqI eI123 ?_)
    refine e_aload_n 0 dX10_begins_124 rfl ?_
    refine e_getR dX10_begins_125 flX10_23 rfl o3 ?_
    refine e_aload_n 0 dX10_begins_128 rfl ?_
    refine e_aload_n 0 dX10_begins_129 rfl ?_
    refine e_bipush (x := 21) dX10_begins_130 ⟨by decide +kernel, by unfold InR; decide⟩ ?_
    refine e_iconst dX10_begins_132 (by unfold InR; decide) ?_
    refine i_VI (μ' := MX10_rowOf) (ci := 9) (r := x0) (as := [vI 21, vI 1]) (st := [vR x0, vR (R108 x0 5)]) rfl dX10_begins_133 mOKX10_rowOf ⟨mlX10_231, imX10_rowOf, seX10_rowOf⟩ (by decide) (Nat.le_of_ble_eq_true rfl) rfl (Nat.le_of_ble_eq_true rfl) ⟨by decide, rfl⟩ o3 (sX10_rowOf ?_)
    refine e_iconst dX10_begins_136 (by unfold InR; decide) ?_
    refine i_VI (μ' := MX10_at) (ci := 9) (r := x0) (as := [vI (vX10_rowOf x0 21 1), vI 0]) (st := [vR (R108 x0 5)]) rfl dX10_begins_137 mOKX10_at ⟨mlX10_68, imX10_at, seX10_at⟩ (by decide) (Nat.le_of_ble_eq_true rfl) rfl (Nat.le_of_ble_eq_true rfl) ⟨by decide, rfl⟩ o3 (sX10_at ?_)
    refine e_iconst dX10_begins_140 (by unfold InR; decide) ?_
    have o6 := h.1
    replace h := h.2
    have o7 := h.1
    replace h := h.2
    obtain ⟨I141, eI141⟩ : ∃ z : MI, z = up2 I123 (R108 x0 5) (Int.toNat (vX10_at x0 (vX10_rowOf x0 21 1) 0)) 1 := ⟨_, rfl⟩
    replace h := h I141 eI141
    refine e_iast dX10_begins_141 o6 o7 (eqI eI141 ?_)
    refine e_iconst dX10_begins_142 (by unfold InR; decide) ?_
    refine e_istore_n (ls2 := [(3, vI 0), (0, vR x0), (1, vI x1), (2, vI x2)]) dX10_begins_143 (by decide) rfl ?_
    exact e_sub (ls2 := [(0, vR x0), (3, vI 0)]) [1, 0] rfl h
  · replace h := h.2 c
    refine e_aload_n 0 dX10_begins_28 rfl ?_
    refine e_iload_n 2 dX10_begins_29 rfl ?_
    refine e_iload_n 3 dX10_begins_30 rfl ?_
    have o8 := h.1
    replace h := h.2
    refine i_VI (μ' := MX10_has) (ci := 9) (r := x0) (as := [vI x2, vI x3]) (st := []) rfl dX10_begins_31 mOKX10_has ⟨mlX10_264, imX10_has, seX10_has⟩ (by decide) (Nat.le_of_ble_eq_true rfl) rfl (Nat.le_of_ble_eq_true rfl) ⟨by decide, rfl⟩ o8 (sX10_has ?_)
    refine e_if_eq (tgt := 85) dX10_begins_34 (by decide) (fun c => ?_) (fun c => ?_)
    · replace h := h.1 c
      refine e_iinc (ls2 := [(3, vI (w32 (x3 + 1))), (0, vR x0), (1, vI x1), (2, vI x2)]) 3 dX10_begins_85 rfl (by decide) rfl ?_
      refine e_goto (tgt := 22) dX10_begins_88 (by decide) ?_
      exact e_sub (ls2 := [(0, vR x0), (1, vI x1), (2, vI x2), (3, vI (w32 (x3 + 1)))]) [1, 2, 3, 0] rfl h
    · replace h := h.2 c
      refine e_aload_n 0 dX10_begins_37 rfl ?_
      refine e_getR dX10_begins_38 flX10_20 rfl o8 ?_
      refine e_iload_n 3 dX10_begins_41 rfl ?_
      have o9 := h.1
      replace h := h.2
      have o10 := h.1
      replace h := h.2
      refine e_iald dX10_begins_42 o9 o10 ?_
      refine e_if_ne (tgt := 49) dX10_begins_43 (by decide) (fun c => ?_) (fun c => ?_)
      · replace h := h.1 c
        refine e_aload_n 0 dX10_begins_49 rfl ?_
        refine e_iload_n 3 dX10_begins_50 rfl ?_
        refine e_aload_n 0 dX10_begins_51 rfl ?_
        refine e_aload_n 0 dX10_begins_52 rfl ?_
        refine e_getI dX10_begins_53 flX10_228 rfl o8 ?_
        refine e_iconst dX10_begins_56 (by unfold InR; decide) ?_
        refine i_VI (μ' := MX10_rowOf) (ci := 9) (r := x0) (as := [vI (I x0 24), vI 0]) (st := [vI x3, vR x0]) rfl dX10_begins_57 mOKX10_rowOf ⟨mlX10_231, imX10_rowOf, seX10_rowOf⟩ (by decide) (Nat.le_of_ble_eq_true rfl) rfl (Nat.le_of_ble_eq_true rfl) ⟨by decide, rfl⟩ o8 (sX10_rowOf ?_)
        refine i_VV (μ' := MX10_copies) (ci := 9) (r := x0) (as := [vI x3, vI (vX10_rowOf x0 (I x0 24) 0)]) (st := []) rfl dX10_begins_60 mOKX10_copies ⟨mlX10_198, imX10_copies, seX10_copies⟩ (by decide) (Nat.le_of_ble_eq_true rfl) rfl (Nat.le_of_ble_eq_true rfl) ⟨by decide, rfl⟩ o8 (CV.mono h ?_)
        clear h
        intro S60 I60 R60 h
        refine e_aload_n 0 dX10_begins_63 rfl ?_
        refine e_aload_n 0 dX10_begins_64 rfl ?_
        have o11 := h.1
        replace h := h.2
        refine e_getI dX10_begins_65 flX10_258 rfl o11 ?_
        refine e_iconst dX10_begins_68 (by unfold InR; decide) ?_
        refine e_iload_n 3 dX10_begins_69 rfl ?_
        refine e_ishl dX10_begins_70 ?_
        refine e_ior dX10_begins_71 ?_
        obtain ⟨I72, eI72⟩ : ∃ z : MI, z = up2 I60 x0 21 (ior (I60 x0 21) (ishl 1 x3)) := ⟨_, rfl⟩
        replace h := h I72 eI72
        refine e_putI dX10_begins_72 flX10_258 rfl (Or.inl rfl) o11 (eqI eI72 ?_)
        refine e_aload_n 0 dX10_begins_75 rfl ?_
        refine e_aload_n 0 dX10_begins_76 rfl ?_
        refine e_getI dX10_begins_77 flX10_228 rfl o11 ?_
        refine e_iconst dX10_begins_80 (by unfold InR; decide) ?_
        refine e_iadd dX10_begins_81 ?_
        obtain ⟨I82, eI82⟩ : ∃ z : MI, z = up2 I72 x0 24 (w32 ((I72 x0 24) + 1)) := ⟨_, rfl⟩
        replace h := h I82 eI82
        refine e_putI dX10_begins_82 flX10_228 rfl (Or.inl rfl) o11 (eqI eI82 ?_)
        refine e_iinc (ls2 := [(3, vI (w32 (x3 + 1))), (0, vR x0), (1, vI x1), (2, vI x2)]) 3 dX10_begins_85 rfl (by decide) rfl ?_
        refine e_goto (tgt := 22) dX10_begins_88 (by decide) ?_
        exact e_sub (ls2 := [(0, vR x0), (1, vI x1), (2, vI x2), (3, vI (w32 (x3 + 1)))]) [1, 2, 3, 0] rfl h
      · replace h := h.2 c
        refine e_goto (tgt := 85) dX10_begins_46 (by decide) ?_
        refine e_iinc (ls2 := [(3, vI (w32 (x3 + 1))), (0, vR x0), (1, vI x1), (2, vI x2)]) 3 dX10_begins_85 rfl (by decide) rfl ?_
        refine e_goto (tgt := 22) dX10_begins_88 (by decide) ?_
        exact e_sub (ls2 := [(0, vR x0), (1, vI x1), (2, vI x2), (3, vI (w32 (x3 + 1)))]) [1, 2, 3, 0] rfl h
set_option maxRecDepth 100000 in
set_option maxHeartbeats 4000000 in
theorem bX10_begins_144 {G : Gl} {S : Sh} {I : MI} {R : MR} {Q : Sh → MI → MR → Prop} {x0 : Nat} {x3 : Int} (h : ((3 ≤ x3 → LX10_begins_179 G x0 0 S I R Q) ∧ (¬ (3 ≤ x3) → (sT S x0 = 10 ∧ (sT S (R x0 6) = 21 ∧ (((0 : Int) ≤ (w32 ((w32 (3 * (vX10_at x0 (vX10_rowOf x0 21 1) 0))) + x3)) ∧ (w32 ((w32 (3 * (vX10_at x0 (vX10_rowOf x0 21 1) 0))) + x3)) < (sL S (R x0 6) : Int)) ∧ (∀ I170, I170 = up2 I (R x0 6) (Int.toNat (w32 ((w32 (3 * (vX10_at x0 (vX10_rowOf x0 21 1) 0))) + x3))) 0 → LX10_begins_144 G x0 (w32 (x3 + 1)) S I170 R Q))))))) : LX10_begins_144 G x0 x3 S I R Q := by
  show E G MX10_begins 144 [(0, vR x0), (3, vI x3)] [] S I R (qV Q)
  refine e_iload_n 1 dX10_begins_144 rfl ?_
  refine e_iconst dX10_begins_145 (by unfold InR; decide) ?_
  refine e_icmp_ge (tgt := 177) dX10_begins_146 (by decide) (fun c => ?_) (fun c => ?_)
  · replace h := h.1 c
    refine e_iconst dX10_begins_177 (by unfold InR; decide) ?_
    refine e_istore_n (ls2 := [(3, vI 0), (0, vR x0)]) dX10_begins_178 (by decide) rfl ?_
    exact e_sub (ls2 := [(0, vR x0), (3, vI 0)]) [1, 0] rfl h
  · replace h := h.2 c
    refine e_aload_n 0 dX10_begins_149 rfl ?_
    have o12 := h.1
    replace h := h.2
    refine e_getR dX10_begins_150 flX10_27 rfl o12 ?_
    refine e_iconst dX10_begins_153 (by unfold InR; decide) ?_
    refine e_aload_n 0 dX10_begins_154 rfl ?_
    refine e_aload_n 0 dX10_begins_155 rfl ?_
    refine e_bipush (x := 21) dX10_begins_156 ⟨by decide +kernel, by unfold InR; decide⟩ ?_
    refine e_iconst dX10_begins_158 (by unfold InR; decide) ?_
    refine i_VI (μ' := MX10_rowOf) (ci := 9) (r := x0) (as := [vI 21, vI 1]) (st := [vR x0, vI 3, vR (R x0 6)]) rfl dX10_begins_159 mOKX10_rowOf ⟨mlX10_231, imX10_rowOf, seX10_rowOf⟩ (by decide) (Nat.le_of_ble_eq_true rfl) rfl (Nat.le_of_ble_eq_true rfl) ⟨by decide, rfl⟩ o12 (sX10_rowOf ?_)
    refine e_iconst dX10_begins_162 (by unfold InR; decide) ?_
    refine i_VI (μ' := MX10_at) (ci := 9) (r := x0) (as := [vI (vX10_rowOf x0 21 1), vI 0]) (st := [vI 3, vR (R x0 6)]) rfl dX10_begins_163 mOKX10_at ⟨mlX10_68, imX10_at, seX10_at⟩ (by decide) (Nat.le_of_ble_eq_true rfl) rfl (Nat.le_of_ble_eq_true rfl) ⟨by decide, rfl⟩ o12 (sX10_at ?_)
    refine e_imul dX10_begins_166 ?_
    refine e_iload_n 1 dX10_begins_167 rfl ?_
    refine e_iadd dX10_begins_168 ?_
    refine e_iconst dX10_begins_169 (by unfold InR; decide) ?_
    have o13 := h.1
    replace h := h.2
    have o14 := h.1
    replace h := h.2
    obtain ⟨I170, eI170⟩ : ∃ z : MI, z = up2 I (R x0 6) (Int.toNat (w32 ((w32 (3 * (vX10_at x0 (vX10_rowOf x0 21 1) 0))) + x3))) 0 := ⟨_, rfl⟩
    replace h := h I170 eI170
    refine e_iast dX10_begins_170 o13 o14 (eqI eI170 ?_)
    refine e_iinc (ls2 := [(3, vI (w32 (x3 + 1))), (0, vR x0)]) 1 dX10_begins_171 rfl (by decide) rfl ?_
    refine e_goto (tgt := 144) dX10_begins_174 (by decide) ?_
    exact e_sub (ls2 := [(0, vR x0), (3, vI (w32 (x3 + 1)))]) [1, 0] rfl h
set_option maxRecDepth 100000 in
set_option maxHeartbeats 4000000 in
theorem bX10_begins_179 {G : Gl} {S : Sh} {I : MI} {R : MR} {Q : Sh → MI → MR → Prop} {x0 : Nat} {x3 : Int} (h : (sT S x0 = 10 ∧ (((I x0 23) ≤ x3 → Q S I R) ∧ (¬ ((I x0 23) ≤ x3) → (sT S (R x0 4) = 21 ∧ (((0 : Int) ≤ (vX10_rowOf x0 21 (w32 (2 + x3))) ∧ (vX10_rowOf x0 21 (w32 (2 + x3))) < (sL S (R x0 4) : Int)) ∧ (∀ I201, I201 = up2 I (R x0 4) (Int.toNat (vX10_rowOf x0 21 (w32 (2 + x3)))) 0 → LX10_begins_179 G x0 (w32 (x3 + 1)) S I201 R Q))))))) : LX10_begins_179 G x0 x3 S I R Q := by
  show E G MX10_begins 179 [(0, vR x0), (3, vI x3)] [] S I R (qV Q)
  refine e_iload_n 1 dX10_begins_179 rfl ?_
  refine e_aload_n 0 dX10_begins_180 rfl ?_
  have o15 := h.1
  replace h := h.2
  refine e_getI dX10_begins_181 flX10_241 rfl o15 ?_
  refine e_icmp_ge (tgt := 208) dX10_begins_184 (by decide) (fun c => ?_) (fun c => ?_)
  · replace h := h.1 c
    exact e_return dX10_begins_208 rfl ⟨rfl, h⟩
  · replace h := h.2 c
    refine e_aload_n 0 dX10_begins_187 rfl ?_
    refine e_getR dX10_begins_188 flX10_20 rfl o15 ?_
    refine e_aload_n 0 dX10_begins_191 rfl ?_
    refine e_bipush (x := 21) dX10_begins_192 ⟨by decide +kernel, by unfold InR; decide⟩ ?_
    refine e_iconst dX10_begins_194 (by unfold InR; decide) ?_
    refine e_iload_n 1 dX10_begins_195 rfl ?_
    refine e_iadd dX10_begins_196 ?_
    refine i_VI (μ' := MX10_rowOf) (ci := 9) (r := x0) (as := [vI 21, vI (w32 (2 + x3))]) (st := [vR (R x0 4)]) rfl dX10_begins_197 mOKX10_rowOf ⟨mlX10_231, imX10_rowOf, seX10_rowOf⟩ (by decide) (Nat.le_of_ble_eq_true rfl) rfl (Nat.le_of_ble_eq_true rfl) ⟨by decide, rfl⟩ o15 (sX10_rowOf ?_)
    refine e_iconst dX10_begins_200 (by unfold InR; decide) ?_
    have o16 := h.1
    replace h := h.2
    have o17 := h.1
    replace h := h.2
    obtain ⟨I201, eI201⟩ : ∃ z : MI, z = up2 I (R x0 4) (Int.toNat (vX10_rowOf x0 21 (w32 (2 + x3)))) 0 := ⟨_, rfl⟩
    replace h := h I201 eI201
    refine e_iast dX10_begins_201 o16 o17 (eqI eI201 ?_)
    refine e_iinc (ls2 := [(3, vI (w32 (x3 + 1))), (0, vR x0)]) 1 dX10_begins_202 rfl (by decide) rfl ?_
    refine e_goto (tgt := 179) dX10_begins_205 (by decide) ?_
    exact e_sub (ls2 := [(0, vR x0), (3, vI (w32 (x3 + 1)))]) [1, 0] rfl h

def LX10_weak_39 (G : Gl) (x0 : Nat) (S : Sh) (I : MI) (R : MR) (Q : Sh → MI → MR → Int → Prop) : Prop := E G MX10_weak 39 [(0, vR x0)] [] S I R (qI Q)
set_option maxRecDepth 100000 in
set_option maxHeartbeats 4000000 in
theorem bX10_weak {G : Gl} {S : Sh} {I : MI} {R : MR} {Q : Sh → MI → MR → Int → Prop} {x0 : Nat} {x1 : Int} {x2 : Int} (h : (sT S x0 = 10 ∧ (∀ I2, I2 = up2 I x0 0 0 → ((pX10_isSlot S x0 x1) ∧ (((vX10_isSlot x0 x1) = 0 → Q S I2 R (-1)) ∧ (¬ ((vX10_isSlot x0 x1) = 0) → (((vX10_isIn x0 x2 0 255) ≠ 0 → (CV G MX10_begins [vR x0, vI x1, vI x2] S I2 R (fun S31 I31 R31 => (sT S31 x0 = 10 ∧ (∀ I36, I36 = up2 I31 x0 20 1 → LX10_weak_39 G x0 S31 I36 R31 Q))))) ∧ (¬ ((vX10_isIn x0 x2 0 255) ≠ 0) → Q S I2 R (-1))))))))) : CI G MX10_weak [vR x0, vI x1, vI x2] S I R Q := by
  show E G MX10_weak 0 [(0, vR x0), (1, vI x1), (2, vI x2)] [] S I R (qI Q)
  refine e_aload_n 0 dX10_weak_0 rfl ?_
  refine e_iconst dX10_weak_1 (by unfold InR; decide) ?_
  have o1 := h.1
  replace h := h.2
  obtain ⟨I2, eI2⟩ : ∃ z : MI, z = up2 I x0 0 0 := ⟨_, rfl⟩
  replace h := h I2 eI2
  refine e_putI dX10_weak_2 flX10_65 rfl (Or.inl rfl) o1 (eqI eI2 ?_)
  refine e_aload_n 0 dX10_weak_5 rfl ?_
  refine e_iload_n 1 dX10_weak_6 rfl ?_
  have o2 := h.1
  replace h := h.2
  refine i_VI (μ' := MX10_isSlot) (ci := 9) (r := x0) (as := [vI x1]) (st := []) rfl dX10_weak_7 mOKX10_isSlot ⟨mlX10_188, imX10_isSlot, seX10_isSlot⟩ (by decide) (Nat.le_of_ble_eq_true rfl) rfl (Nat.le_of_ble_eq_true rfl) ⟨by decide, rfl⟩ o1 (sX10_isSlot o2 ?_)
  refine e_if_eq (tgt := 26) dX10_weak_10 (by decide) (fun c => ?_) (fun c => ?_)
  · replace h := h.1 c
    refine e_iconst dX10_weak_26 (by unfold InR; decide) ?_
    exact e_ireturn dX10_weak_27 rfl ⟨_, rfl, h⟩
  · replace h := h.2 c
    refine e_aload_n 0 dX10_weak_13 rfl ?_
    refine e_iload_n 2 dX10_weak_14 rfl ?_
    refine e_i2l dX10_weak_15 ?_
    refine e_lconst (x := 0) dX10_weak_16 ⟨by decide +kernel, by unfold InL; decide⟩ ?_
    refine e_ldc2 (x := 255) dX10_weak_17 cnX10_267 (by unfold InL; decide) ?_
    refine i_VI (μ' := MX10_isIn) (ci := 9) (r := x0) (as := [vL x2, vL 0, vL 255]) (st := []) rfl dX10_weak_20 mOKX10_isIn ⟨mlX10_106, imX10_isIn, seX10_isIn⟩ (by decide) (Nat.le_of_ble_eq_true rfl) rfl (Nat.le_of_ble_eq_true rfl) ⟨by decide, rfl⟩ o1 (sX10_isIn ?_)
    refine e_if_ne (tgt := 28) dX10_weak_23 (by decide) (fun c => ?_) (fun c => ?_)
    · replace h := h.1 c
      refine e_aload_n 0 dX10_weak_28 rfl ?_
      refine e_iload_n 1 dX10_weak_29 rfl ?_
      refine e_iload_n 2 dX10_weak_30 rfl ?_
      refine i_VV (μ' := MX10_begins) (ci := 9) (r := x0) (as := [vI x1, vI x2]) (st := []) rfl dX10_weak_31 mOKX10_begins ⟨mlX10_269, imX10_begins, seX10_begins⟩ (by decide) (Nat.le_of_ble_eq_true rfl) rfl (Nat.le_of_ble_eq_true rfl) ⟨by decide, rfl⟩ o1 (CV.mono h ?_)
      clear h
      intro S31 I31 R31 h
      refine e_aload_n 0 dX10_weak_34 rfl ?_
      refine e_iconst dX10_weak_35 (by unfold InR; decide) ?_
      have o3 := h.1
      replace h := h.2
      obtain ⟨I36, eI36⟩ : ∃ z : MI, z = up2 I31 x0 20 1 := ⟨_, rfl⟩
      replace h := h I36 eI36
      refine e_putZ dX10_weak_36 flX10_120 rfl (Or.inl rfl) o3 (by decide) (eqI eI36 ?_)
      exact e_sub (ls2 := [(0, vR x0)]) [0] rfl h
    · replace h := h.2 c
      refine e_iconst dX10_weak_26 (by unfold InR; decide) ?_
      exact e_ireturn dX10_weak_27 rfl ⟨_, rfl, h⟩
set_option maxRecDepth 100000 in
set_option maxHeartbeats 4000000 in
theorem bX10_weak_39 {G : Gl} {S : Sh} {I : MI} {R : MR} {Q : Sh → MI → MR → Int → Prop} {x0 : Nat} (h : (sT S x0 = 10 ∧ (((I x0 20) = 0 → (((I x0 20) = 0 → Q S I R (-2)) ∧ (¬ ((I x0 20) = 0) → Q S I R (I x0 25)))) ∧ (¬ ((I x0 20) = 0) → (sT S (R x0 4) = 21 ∧ (((0 : Int) ≤ (vX10_rowOf x0 21 0) ∧ (vX10_rowOf x0 21 0) < (sL S (R x0 4) : Int)) ∧ (((I (R x0 4) (Int.toNat (vX10_rowOf x0 21 0))) ≤ 0 → (((I x0 20) = 0 → Q S I R (-2)) ∧ (¬ ((I x0 20) = 0) → Q S I R (I x0 25)))) ∧ (¬ ((I (R x0 4) (Int.toNat (vX10_rowOf x0 21 0))) ≤ 0) → (CI G MX10_dividing [vR x0, vI (vX10_rowOf x0 21 0)] S I R (fun S69 I69 R69 x69_ => ((x69_ ≠ (-1) → (sT S69 x0 = 10 ∧ (CI G MX10_steps [vR x0, vI x69_] S69 I69 R69 (fun S84 I84 R84 x84_ => (sT S84 x0 = 10 ∧ ((x84_ = 0 ∨ x84_ = 1) ∧ (∀ I87, I87 = up2 I84 x0 20 x84_ → LX10_weak_39 G x0 S84 I87 R84 Q))))))) ∧ (¬ (x69_ ≠ (-1)) → (sT S69 x0 = 10 ∧ (((I69 x0 20) = 0 → Q S69 I69 R69 (-2)) ∧ (¬ ((I69 x0 20) = 0) → Q S69 I69 R69 (I69 x0 25)))))))))))))))) : LX10_weak_39 G x0 S I R Q := by
  show E G MX10_weak 39 [(0, vR x0)] [] S I R (qI Q)
  refine e_aload_n 0 dX10_weak_39 rfl ?_
  have o4 := h.1
  replace h := h.2
  refine e_getI dX10_weak_40 flX10_120 rfl o4 ?_
  refine e_if_eq (tgt := 93) dX10_weak_43 (by decide) (fun c => ?_) (fun c => ?_)
  · replace h := h.1 c
    refine e_aload_n 0 dX10_weak_93 rfl ?_
    refine e_getI dX10_weak_94 flX10_120 rfl o4 ?_
    refine e_if_eq (tgt := 107) dX10_weak_97 (by decide) (fun c => ?_) (fun c => ?_)
    · replace h := h.1 c
      refine e_bipush (x := (-2)) dX10_weak_107 ⟨by decide +kernel, by unfold InR; decide⟩ ?_
      exact e_ireturn dX10_weak_109 rfl ⟨_, rfl, h⟩
    · replace h := h.2 c
      refine e_aload_n 0 dX10_weak_100 rfl ?_
      refine e_getI dX10_weak_101 flX10_238 rfl o4 ?_
      refine e_goto (tgt := 109) dX10_weak_104 (by decide) ?_
      exact e_ireturn dX10_weak_109 rfl ⟨_, rfl, h⟩
  · replace h := h.2 c
    refine e_aload_n 0 dX10_weak_46 rfl ?_
    refine e_getR dX10_weak_47 flX10_20 rfl o4 ?_
    refine e_aload_n 0 dX10_weak_50 rfl ?_
    refine e_bipush (x := 21) dX10_weak_51 ⟨by decide +kernel, by unfold InR; decide⟩ ?_
    refine e_iconst dX10_weak_53 (by unfold InR; decide) ?_
    refine i_VI (μ' := MX10_rowOf) (ci := 9) (r := x0) (as := [vI 21, vI 0]) (st := [vR (R x0 4)]) rfl dX10_weak_54 mOKX10_rowOf ⟨mlX10_231, imX10_rowOf, seX10_rowOf⟩ (by decide) (Nat.le_of_ble_eq_true rfl) rfl (Nat.le_of_ble_eq_true rfl) ⟨by decide, rfl⟩ o4 (sX10_rowOf ?_)
    have o5 := h.1
    replace h := h.2
    have o6 := h.1
    replace h := h.2
    refine e_iald dX10_weak_57 o5 o6 ?_
    refine e_if_le (tgt := 93) dX10_weak_58 (by decide) (fun c => ?_) (fun c => ?_)
    · replace h := h.1 c
      refine e_aload_n 0 dX10_weak_93 rfl ?_
      refine e_getI dX10_weak_94 flX10_120 rfl o4 ?_
      refine e_if_eq (tgt := 107) dX10_weak_97 (by decide) (fun c => ?_) (fun c => ?_)
      · replace h := h.1 c
        refine e_bipush (x := (-2)) dX10_weak_107 ⟨by decide +kernel, by unfold InR; decide⟩ ?_
        exact e_ireturn dX10_weak_109 rfl ⟨_, rfl, h⟩
      · replace h := h.2 c
        refine e_aload_n 0 dX10_weak_100 rfl ?_
        refine e_getI dX10_weak_101 flX10_238 rfl o4 ?_
        refine e_goto (tgt := 109) dX10_weak_104 (by decide) ?_
        exact e_ireturn dX10_weak_109 rfl ⟨_, rfl, h⟩
    · replace h := h.2 c
      refine e_aload_n 0 dX10_weak_61 rfl ?_
      refine e_aload_n 0 dX10_weak_62 rfl ?_
      refine e_bipush (x := 21) dX10_weak_63 ⟨by decide +kernel, by unfold InR; decide⟩ ?_
      refine e_iconst dX10_weak_65 (by unfold InR; decide) ?_
      refine i_VI (μ' := MX10_rowOf) (ci := 9) (r := x0) (as := [vI 21, vI 0]) (st := [vR x0]) rfl dX10_weak_66 mOKX10_rowOf ⟨mlX10_231, imX10_rowOf, seX10_rowOf⟩ (by decide) (Nat.le_of_ble_eq_true rfl) rfl (Nat.le_of_ble_eq_true rfl) ⟨by decide, rfl⟩ o4 (sX10_rowOf ?_)
      refine i_VI (μ' := MX10_dividing) (ci := 9) (r := x0) (as := [vI (vX10_rowOf x0 21 0)]) (st := []) rfl dX10_weak_69 mOKX10_dividing ⟨mlX10_272, imX10_dividing, seX10_dividing⟩ (by decide) (Nat.le_of_ble_eq_true rfl) rfl (Nat.le_of_ble_eq_true rfl) ⟨by decide, rfl⟩ o4 (CI.mono h ?_)
      clear h
      intro S69 I69 R69 x69_ h
      refine e_istore_n (ls2 := [(3, vI x69_), (0, vR x0)]) dX10_weak_72 (by decide) rfl ?_
      refine e_iload_n 0 dX10_weak_73 rfl ?_
      refine e_iconst dX10_weak_74 (by unfold InR; decide) ?_
      refine e_icmp_ne (tgt := 81) dX10_weak_75 (by decide) (fun c => ?_) (fun c => ?_)
      · replace h := h.1 c
        refine e_aload_n 1 dX10_weak_81 rfl ?_
        refine e_aload_n 1 dX10_weak_82 rfl ?_
        refine e_iload_n 0 dX10_weak_83 rfl ?_
        have o7 := h.1
        replace h := h.2
        refine i_VI (μ' := MX10_steps) (ci := 9) (r := x0) (as := [vI x69_]) (st := [vR x0]) rfl dX10_weak_84 mOKX10_steps ⟨mlX10_275, imX10_steps, seX10_steps⟩ (by decide) (Nat.le_of_ble_eq_true rfl) rfl (Nat.le_of_ble_eq_true rfl) ⟨by decide, rfl⟩ o7 (CI.mono h ?_)
        clear h
        intro S84 I84 R84 x84_ h
        have o8 := h.1
        replace h := h.2
        have o9 := h.1
        replace h := h.2
        obtain ⟨I87, eI87⟩ : ∃ z : MI, z = up2 I84 x0 20 x84_ := ⟨_, rfl⟩
        replace h := h I87 eI87
        refine e_putZ dX10_weak_87 flX10_120 rfl (Or.inl rfl) o8 o9 (eqI eI87 ?_)
        refine e_goto (tgt := 39) dX10_weak_90 (by decide) ?_
        exact e_sub (ls2 := [(0, vR x0)]) [1] rfl h
      · replace h := h.2 c
        refine e_goto (tgt := 93) dX10_weak_78 (by decide) ?_
        refine e_aload_n 1 dX10_weak_93 rfl ?_
        have o10 := h.1
        replace h := h.2
        refine e_getI dX10_weak_94 flX10_120 rfl o10 ?_
        refine e_if_eq (tgt := 107) dX10_weak_97 (by decide) (fun c => ?_) (fun c => ?_)
        · replace h := h.1 c
          refine e_bipush (x := (-2)) dX10_weak_107 ⟨by decide +kernel, by unfold InR; decide⟩ ?_
          exact e_ireturn dX10_weak_109 rfl ⟨_, rfl, h⟩
        · replace h := h.2 c
          refine e_aload_n 1 dX10_weak_100 rfl ?_
          refine e_getI dX10_weak_101 flX10_238 rfl o10 ?_
          refine e_goto (tgt := 109) dX10_weak_104 (by decide) ?_
          exact e_ireturn dX10_weak_109 rfl ⟨_, rfl, h⟩

def LX10_aheadOf_4 (G : Gl) (x0 : Nat) (x1 : Int) (x2 : Int) (x3 : Int) (S : Sh) (I : MI) (R : MR) (Q : Sh → MI → MR → Int → Prop) : Prop := E G MX10_aheadOf 4 [(0, vR x0), (1, vI x1), (2, vI x2), (3, vI x3)] [] S I R (qI Q)
set_option maxRecDepth 100000 in
set_option maxHeartbeats 4000000 in
theorem bX10_aheadOf {G : Gl} {S : Sh} {I : MI} {R : MR} {Q : Sh → MI → MR → Int → Prop} {x0 : Nat} {x1 : Int} (h : LX10_aheadOf_4 G x0 x1 0 0 S I R Q) : CI G MX10_aheadOf [vR x0, vI x1] S I R Q := by
  show E G MX10_aheadOf 0 [(0, vR x0), (1, vI x1)] [] S I R (qI Q)
  refine e_iconst dX10_aheadOf_0 (by unfold InR; decide) ?_
  refine e_istore_n (ls2 := [(2, vI 0), (0, vR x0), (1, vI x1)]) dX10_aheadOf_1 (by decide) rfl ?_
  refine e_iconst dX10_aheadOf_2 (by unfold InR; decide) ?_
  refine e_istore_n (ls2 := [(3, vI 0), (2, vI 0), (0, vR x0), (1, vI x1)]) dX10_aheadOf_3 (by decide) rfl ?_
  exact e_sub (ls2 := [(0, vR x0), (1, vI x1), (2, vI 0), (3, vI 0)]) [2, 3, 1, 0] rfl h
set_option maxRecDepth 100000 in
set_option maxHeartbeats 4000000 in
theorem bX10_aheadOf_4 {G : Gl} {S : Sh} {I : MI} {R : MR} {Q : Sh → MI → MR → Int → Prop} {x0 : Nat} {x1 : Int} {x2 : Int} {x3 : Int} (h : ((x1 ≤ x3 → Q S I R x2) ∧ (¬ (x1 ≤ x3) → (sT S x0 = 10 ∧ (((vX10_has x0 (I x0 21) x3) = 0 → LX10_aheadOf_4 G x0 x1 x2 (w32 (x3 + 1)) S I R Q) ∧ (¬ ((vX10_has x0 (I x0 21) x3) = 0) → LX10_aheadOf_4 G x0 x1 (w32 (x2 + 1)) (w32 (x3 + 1)) S I R Q)))))) : LX10_aheadOf_4 G x0 x1 x2 x3 S I R Q := by
  show E G MX10_aheadOf 4 [(0, vR x0), (1, vI x1), (2, vI x2), (3, vI x3)] [] S I R (qI Q)
  refine e_iload_n 3 dX10_aheadOf_4 rfl ?_
  refine e_iload_n 1 dX10_aheadOf_5 rfl ?_
  refine e_icmp_ge (tgt := 31) dX10_aheadOf_6 (by decide) (fun c => ?_) (fun c => ?_)
  · replace h := h.1 c
    refine e_iload_n 2 dX10_aheadOf_31 rfl ?_
    exact e_ireturn dX10_aheadOf_32 rfl ⟨_, rfl, h⟩
  · replace h := h.2 c
    refine e_aload_n 0 dX10_aheadOf_9 rfl ?_
    refine e_aload_n 0 dX10_aheadOf_10 rfl ?_
    have o1 := h.1
    replace h := h.2
    refine e_getI dX10_aheadOf_11 flX10_258 rfl o1 ?_
    refine e_iload_n 3 dX10_aheadOf_14 rfl ?_
    refine i_VI (μ' := MX10_has) (ci := 9) (r := x0) (as := [vI (I x0 21), vI x3]) (st := []) rfl dX10_aheadOf_15 mOKX10_has ⟨mlX10_264, imX10_has, seX10_has⟩ (by decide) (Nat.le_of_ble_eq_true rfl) rfl (Nat.le_of_ble_eq_true rfl) ⟨by decide, rfl⟩ o1 (sX10_has ?_)
    refine e_if_eq (tgt := 25) dX10_aheadOf_18 (by decide) (fun c => ?_) (fun c => ?_)
    · replace h := h.1 c
      refine e_iinc (ls2 := [(3, vI (w32 (x3 + 1))), (0, vR x0), (1, vI x1), (2, vI x2)]) 3 dX10_aheadOf_25 rfl (by decide) rfl ?_
      refine e_goto (tgt := 4) dX10_aheadOf_28 (by decide) ?_
      exact e_sub (ls2 := [(0, vR x0), (1, vI x1), (2, vI x2), (3, vI (w32 (x3 + 1)))]) [1, 2, 3, 0] rfl h
    · replace h := h.2 c
      refine e_iload_n 2 dX10_aheadOf_21 rfl ?_
      refine e_iconst dX10_aheadOf_22 (by unfold InR; decide) ?_
      refine e_iadd dX10_aheadOf_23 ?_
      refine e_istore_n (ls2 := [(2, vI (w32 (x2 + 1))), (0, vR x0), (1, vI x1), (3, vI x3)]) dX10_aheadOf_24 (by decide) rfl ?_
      refine e_iinc (ls2 := [(3, vI (w32 (x3 + 1))), (2, vI (w32 (x2 + 1))), (0, vR x0), (1, vI x1)]) 3 dX10_aheadOf_25 rfl (by decide) rfl ?_
      refine e_goto (tgt := 4) dX10_aheadOf_28 (by decide) ?_
      exact e_sub (ls2 := [(0, vR x0), (1, vI x1), (2, vI (w32 (x2 + 1))), (3, vI (w32 (x3 + 1)))]) [2, 3, 1, 0] rfl h

def LX10_kept_54 (G : Gl) (x0 : Nat) (x1 : Int) (x2 : Int) (S : Sh) (I : MI) (R : MR) (Q : Sh → MI → MR → Int → Prop) : Prop := E G MX10_kept 54 [(0, vR x0), (1, vI x1), (2, vI x2)] [] S I R (qI Q)
set_option maxRecDepth 100000 in
set_option maxHeartbeats 4000000 in
theorem bX10_kept {G : Gl} {S : Sh} {I : MI} {R : MR} {Q : Sh → MI → MR → Int → Prop} {x0 : Nat} {x1 : Int} {x2 : Int} (h : (sT S x0 = 10 ∧ (∀ I2, I2 = up2 I x0 0 0 → (((I2 x0 20) = 0 → Q S I2 R (-1)) ∧ (¬ ((I2 x0 20) = 0) → ((pX10_isSlot S x0 x2) ∧ (((vX10_isSlot x0 x2) = 0 → Q S I2 R (-1)) ∧ (¬ ((vX10_isSlot x0 x2) = 0) → (((vX10_isIn x0 x1 0 9) = 0 → Q S I2 R (-1)) ∧ (¬ ((vX10_isIn x0 x1 0 9) = 0) → ((x1 ≤ 1 → LX10_kept_54 G x0 x1 x2 S I2 R Q) ∧ (¬ (x1 ≤ 1) → (((vX10_has x0 (I2 x0 21) (w32 (x1 - 2))) ≠ 0 → LX10_kept_54 G x0 x1 x2 S I2 R Q) ∧ (¬ ((vX10_has x0 (I2 x0 21) (w32 (x1 - 2))) ≠ 0) → Q S I2 R (-1))))))))))))))) : CI G MX10_kept [vR x0, vI x1, vI x2] S I R Q := by
  show E G MX10_kept 0 [(0, vR x0), (1, vI x1), (2, vI x2)] [] S I R (qI Q)
  refine e_aload_n 0 dX10_kept_0 rfl ?_
  refine e_iconst dX10_kept_1 (by unfold InR; decide) ?_
  have o1 := h.1
  replace h := h.2
  obtain ⟨I2, eI2⟩ : ∃ z : MI, z = up2 I x0 0 0 := ⟨_, rfl⟩
  replace h := h I2 eI2
  refine e_putI dX10_kept_2 flX10_65 rfl (Or.inl rfl) o1 (eqI eI2 ?_)
  refine e_aload_n 0 dX10_kept_5 rfl ?_
  refine e_getI dX10_kept_6 flX10_120 rfl o1 ?_
  refine e_if_eq (tgt := 52) dX10_kept_9 (by decide) (fun c => ?_) (fun c => ?_)
  · replace h := h.1 c
    refine e_iconst dX10_kept_52 (by unfold InR; decide) ?_
    exact e_ireturn dX10_kept_53 rfl ⟨_, rfl, h⟩
  · replace h := h.2 c
    refine e_aload_n 0 dX10_kept_12 rfl ?_
    refine e_iload_n 2 dX10_kept_13 rfl ?_
    have o2 := h.1
    replace h := h.2
    refine i_VI (μ' := MX10_isSlot) (ci := 9) (r := x0) (as := [vI x2]) (st := []) rfl dX10_kept_14 mOKX10_isSlot ⟨mlX10_188, imX10_isSlot, seX10_isSlot⟩ (by decide) (Nat.le_of_ble_eq_true rfl) rfl (Nat.le_of_ble_eq_true rfl) ⟨by decide, rfl⟩ o1 (sX10_isSlot o2 ?_)
    refine e_if_eq (tgt := 52) dX10_kept_17 (by decide) (fun c => ?_) (fun c => ?_)
    · replace h := h.1 c
      refine e_iconst dX10_kept_52 (by unfold InR; decide) ?_
      exact e_ireturn dX10_kept_53 rfl ⟨_, rfl, h⟩
    · replace h := h.2 c
      refine e_aload_n 0 dX10_kept_20 rfl ?_
      refine e_iload_n 1 dX10_kept_21 rfl ?_
      refine e_i2l dX10_kept_22 ?_
      refine e_lconst (x := 0) dX10_kept_23 ⟨by decide +kernel, by unfold InL; decide⟩ ?_
      refine e_ldc2 (x := 9) dX10_kept_24 cnX10_278 (by unfold InL; decide) ?_
      refine i_VI (μ' := MX10_isIn) (ci := 9) (r := x0) (as := [vL x1, vL 0, vL 9]) (st := []) rfl dX10_kept_27 mOKX10_isIn ⟨mlX10_106, imX10_isIn, seX10_isIn⟩ (by decide) (Nat.le_of_ble_eq_true rfl) rfl (Nat.le_of_ble_eq_true rfl) ⟨by decide, rfl⟩ o1 (sX10_isIn ?_)
      refine e_if_eq (tgt := 52) dX10_kept_30 (by decide) (fun c => ?_) (fun c => ?_)
      · replace h := h.1 c
        refine e_iconst dX10_kept_52 (by unfold InR; decide) ?_
        exact e_ireturn dX10_kept_53 rfl ⟨_, rfl, h⟩
      · replace h := h.2 c
        refine e_iload_n 1 dX10_kept_33 rfl ?_
        refine e_iconst dX10_kept_34 (by unfold InR; decide) ?_
        refine e_icmp_le (tgt := 54) dX10_kept_35 (by decide) (fun c => ?_) (fun c => ?_)
        · replace h := h.1 c
          exact e_sub (ls2 := [(0, vR x0), (1, vI x1), (2, vI x2)]) [0, 1, 2] rfl h
        · replace h := h.2 c
          refine e_aload_n 0 dX10_kept_38 rfl ?_
          refine e_aload_n 0 dX10_kept_39 rfl ?_
          refine e_getI dX10_kept_40 flX10_258 rfl o1 ?_
          refine e_iload_n 1 dX10_kept_43 rfl ?_
          refine e_iconst dX10_kept_44 (by unfold InR; decide) ?_
          refine e_isub dX10_kept_45 ?_
          refine i_VI (μ' := MX10_has) (ci := 9) (r := x0) (as := [vI (I2 x0 21), vI (w32 (x1 - 2))]) (st := []) rfl dX10_kept_46 mOKX10_has ⟨mlX10_264, imX10_has, seX10_has⟩ (by decide) (Nat.le_of_ble_eq_true rfl) rfl (Nat.le_of_ble_eq_true rfl) ⟨by decide, rfl⟩ o1 (sX10_has ?_)
          refine e_if_ne (tgt := 54) dX10_kept_49 (by decide) (fun c => ?_) (fun c => ?_)
          · replace h := h.1 c
            exact e_sub (ls2 := [(0, vR x0), (1, vI x1), (2, vI x2)]) [0, 1, 2] rfl h
          · replace h := h.2 c
            refine e_iconst dX10_kept_52 (by unfold InR; decide) ?_
            exact e_ireturn dX10_kept_53 rfl ⟨_, rfl, h⟩
set_option maxRecDepth 100000 in
set_option maxHeartbeats 4000000 in
theorem bX10_kept_54 {G : Gl} {S : Sh} {I : MI} {R : MR} {Q : Sh → MI → MR → Int → Prop} {x0 : Nat} {x1 : Int} {x2 : Int} (h : ((2 ≤ x1 → (sT S x0 = 10 ∧ (CI G MX10_aheadOf [vR x0, vI (w32 (x1 - 2))] S I R (fun S72 I72 R72 x72_ => (sT S72 x0 = 10 ∧ (CV G MX10_copies [vR x0, vI (vX10_rowOf x0 21 (w32 (2 + x72_))), vI x2] S72 I72 R72 (fun S80 I80 R80 => (sT S80 x0 = 10 ∧ (sT S80 (R80 x0 4) = 21 ∧ (((0 : Int) ≤ x2 ∧ x2 < (sL S80 (R80 x0 4) : Int)) ∧ Q S80 I80 R80 (I80 (R80 x0 4) (Int.toNat x2)))))))))))) ∧ (¬ (2 ≤ x1) → (sT S x0 = 10 ∧ (CV G MX10_copies [vR x0, vI (vX10_rowOf x0 21 x1), vI x2] S I R (fun S80 I80 R80 => (sT S80 x0 = 10 ∧ (sT S80 (R80 x0 4) = 21 ∧ (((0 : Int) ≤ x2 ∧ x2 < (sL S80 (R80 x0 4) : Int)) ∧ Q S80 I80 R80 (I80 (R80 x0 4) (Int.toNat x2))))))))))) : LX10_kept_54 G x0 x1 x2 S I R Q := by
  show E G MX10_kept 54 [(0, vR x0), (1, vI x1), (2, vI x2)] [] S I R (qI Q)
  refine e_aload_n 0 dX10_kept_54 rfl ?_
  refine e_aload_n 0 dX10_kept_55 rfl ?_
  refine e_bipush (x := 21) dX10_kept_56 ⟨by decide +kernel, by unfold InR; decide⟩ ?_
  refine e_iload_n 1 dX10_kept_58 rfl ?_
  refine e_iconst dX10_kept_59 (by unfold InR; decide) ?_
  refine e_icmp_ge (tgt := 67) dX10_kept_60 (by decide) (fun c => ?_) (fun c => ?_)
  · replace h := h.1 c
    refine e_iconst dX10_kept_67 (by unfold InR; decide) ?_
    refine e_aload_n 0 dX10_kept_68 rfl ?_
    refine e_iload_n 1 dX10_kept_69 rfl ?_
    refine e_iconst dX10_kept_70 (by unfold InR; decide) ?_
    refine e_isub dX10_kept_71 ?_
    have o3 := h.1
    replace h := h.2
    refine i_VI (μ' := MX10_aheadOf) (ci := 9) (r := x0) (as := [vI (w32 (x1 - 2))]) (st := [vI 2, vI 21, vR x0, vR x0]) rfl dX10_kept_72 mOKX10_aheadOf ⟨mlX10_280, imX10_aheadOf, seX10_aheadOf⟩ (by decide) (Nat.le_of_ble_eq_true rfl) rfl (Nat.le_of_ble_eq_true rfl) ⟨by decide, rfl⟩ o3 (CI.mono h ?_)
    clear h
    intro S72 I72 R72 x72_ h
    refine e_iadd dX10_kept_75 ?_
    have o4 := h.1
    replace h := h.2
    refine i_VI (μ' := MX10_rowOf) (ci := 9) (r := x0) (as := [vI 21, vI (w32 (2 + x72_))]) (st := [vR x0]) rfl dX10_kept_76 mOKX10_rowOf ⟨mlX10_231, imX10_rowOf, seX10_rowOf⟩ (by decide) (Nat.le_of_ble_eq_true rfl) rfl (Nat.le_of_ble_eq_true rfl) ⟨by decide, rfl⟩ o4 (sX10_rowOf ?_)
    refine e_iload_n 2 dX10_kept_79 rfl ?_
    refine i_VV (μ' := MX10_copies) (ci := 9) (r := x0) (as := [vI (vX10_rowOf x0 21 (w32 (2 + x72_))), vI x2]) (st := []) rfl dX10_kept_80 mOKX10_copies ⟨mlX10_198, imX10_copies, seX10_copies⟩ (by decide) (Nat.le_of_ble_eq_true rfl) rfl (Nat.le_of_ble_eq_true rfl) ⟨by decide, rfl⟩ o4 (CV.mono h ?_)
    clear h
    intro S80 I80 R80 h
    refine e_aload_n 0 dX10_kept_83 rfl ?_
    have o5 := h.1
    replace h := h.2
    refine e_getR dX10_kept_84 flX10_20 rfl o5 ?_
    refine e_iload_n 2 dX10_kept_87 rfl ?_
    have o6 := h.1
    replace h := h.2
    have o7 := h.1
    replace h := h.2
    refine e_iald dX10_kept_88 o6 o7 ?_
    exact e_ireturn dX10_kept_89 rfl ⟨_, rfl, h⟩
  · replace h := h.2 c
    refine e_iload_n 1 dX10_kept_63 rfl ?_
    refine e_goto (tgt := 76) dX10_kept_64 (by decide) ?_
    have o8 := h.1
    replace h := h.2
    refine i_VI (μ' := MX10_rowOf) (ci := 9) (r := x0) (as := [vI 21, vI x1]) (st := [vR x0]) rfl dX10_kept_76 mOKX10_rowOf ⟨mlX10_231, imX10_rowOf, seX10_rowOf⟩ (by decide) (Nat.le_of_ble_eq_true rfl) rfl (Nat.le_of_ble_eq_true rfl) ⟨by decide, rfl⟩ o8 (sX10_rowOf ?_)
    refine e_iload_n 2 dX10_kept_79 rfl ?_
    refine i_VV (μ' := MX10_copies) (ci := 9) (r := x0) (as := [vI (vX10_rowOf x0 21 x1), vI x2]) (st := []) rfl dX10_kept_80 mOKX10_copies ⟨mlX10_198, imX10_copies, seX10_copies⟩ (by decide) (Nat.le_of_ble_eq_true rfl) rfl (Nat.le_of_ble_eq_true rfl) ⟨by decide, rfl⟩ o8 (CV.mono h ?_)
    clear h
    intro S80 I80 R80 h
    refine e_aload_n 0 dX10_kept_83 rfl ?_
    have o9 := h.1
    replace h := h.2
    refine e_getR dX10_kept_84 flX10_20 rfl o9 ?_
    refine e_iload_n 2 dX10_kept_87 rfl ?_
    have o10 := h.1
    replace h := h.2
    have o11 := h.1
    replace h := h.2
    refine e_iald dX10_kept_88 o10 o11 ?_
    exact e_ireturn dX10_kept_89 rfl ⟨_, rfl, h⟩

set_option maxRecDepth 100000 in
set_option maxHeartbeats 4000000 in
theorem bX10_step {G : Gl} {S : Sh} {I : MI} {R : MR} {Q : Sh → MI → MR → Int → Prop} {x0 : Nat} {x1 : Int} {x2 : Int} (h : (sT S x0 = 10 ∧ (∀ I2, I2 = up2 I x0 0 0 → (((I2 x0 20) ≠ 0 → ((x1 ≠ (-1) → (((vX10_isIn x0 x1 0 (w64 ((I2 x0 25) - 1))) = 0 → Q S I2 R (-1)) ∧ (¬ ((vX10_isIn x0 x1 0 (w64 ((I2 x0 25) - 1))) = 0) → (((vX10_isIn x0 x2 0 4) = 0 → Q S I2 R (-1)) ∧ (¬ ((vX10_isIn x0 x2 0 4) = 0) → (sT S (R x0 26) = 21 ∧ (((0 : Int) ≤ (w32 ((w32 (5 * x1)) + x2)) ∧ (w32 ((w32 (5 * x1)) + x2)) < (sL S (R x0 26) : Int)) ∧ Q S I2 R (I2 (R x0 26) (Int.toNat (w32 ((w32 (5 * x1)) + x2))))))))))) ∧ (¬ (x1 ≠ (-1)) → ((x2 ≠ 0 → ((x2 ≠ 1 → ((x2 ≠ 2 → Q S I2 R (-1)) ∧ (¬ (x2 ≠ 2) → Q S I2 R 1))) ∧ (¬ (x2 ≠ 1) → Q S I2 R (I2 x0 24)))) ∧ (¬ (x2 ≠ 0) → Q S I2 R (I2 x0 25)))))) ∧ (¬ ((I2 x0 20) ≠ 0) → Q S I2 R (-1)))))) : CI G MX10_step [vR x0, vI x1, vI x2] S I R Q := by
  show E G MX10_step 0 [(0, vR x0), (1, vI x1), (2, vI x2)] [] S I R (qI Q)
  refine e_aload_n 0 dX10_step_0 rfl ?_
  refine e_iconst dX10_step_1 (by unfold InR; decide) ?_
  have o1 := h.1
  replace h := h.2
  obtain ⟨I2, eI2⟩ : ∃ z : MI, z = up2 I x0 0 0 := ⟨_, rfl⟩
  replace h := h I2 eI2
  refine e_putI dX10_step_2 flX10_65 rfl (Or.inl rfl) o1 (eqI eI2 ?_)
  refine e_aload_n 0 dX10_step_5 rfl ?_
  refine e_getI dX10_step_6 flX10_120 rfl o1 ?_
  refine e_if_ne (tgt := 14) dX10_step_9 (by decide) (fun c => ?_) (fun c => ?_)
  · replace h := h.1 c
    refine e_iload_n 1 dX10_step_14 rfl ?_
    refine e_iconst dX10_step_15 (by unfold InR; decide) ?_
    refine e_icmp_ne (tgt := 53) dX10_step_16 (by decide) (fun c => ?_) (fun c => ?_)
    · replace h := h.1 c
      refine e_aload_n 0 dX10_step_53 rfl ?_
      refine e_iload_n 1 dX10_step_54 rfl ?_
      refine e_i2l dX10_step_55 ?_
      refine e_lconst (x := 0) dX10_step_56 ⟨by decide +kernel, by unfold InL; decide⟩ ?_
      refine e_aload_n 0 dX10_step_57 rfl ?_
      refine e_getI dX10_step_58 flX10_238 rfl o1 ?_
      refine e_i2l dX10_step_61 ?_
      refine e_lconst (x := 1) dX10_step_62 ⟨by decide +kernel, by unfold InL; decide⟩ ?_
      refine e_lsub dX10_step_63 ?_
      refine i_VI (μ' := MX10_isIn) (ci := 9) (r := x0) (as := [vL x1, vL 0, vL (w64 ((I2 x0 25) - 1))]) (st := []) rfl dX10_step_64 mOKX10_isIn ⟨mlX10_106, imX10_isIn, seX10_isIn⟩ (by decide) (Nat.le_of_ble_eq_true rfl) rfl (Nat.le_of_ble_eq_true rfl) ⟨by decide, rfl⟩ o1 (sX10_isIn ?_)
      refine e_if_eq (tgt := 96) dX10_step_67 (by decide) (fun c => ?_) (fun c => ?_)
      · replace h := h.1 c
        refine e_iconst dX10_step_96 (by unfold InR; decide) ?_
        exact e_ireturn dX10_step_97 rfl ⟨_, rfl, h⟩
      · replace h := h.2 c
        refine e_aload_n 0 dX10_step_70 rfl ?_
        refine e_iload_n 2 dX10_step_71 rfl ?_
        refine e_i2l dX10_step_72 ?_
        refine e_lconst (x := 0) dX10_step_73 ⟨by decide +kernel, by unfold InL; decide⟩ ?_
        refine e_ldc2 (x := 4) dX10_step_74 cnX10_131 (by unfold InL; decide) ?_
        refine i_VI (μ' := MX10_isIn) (ci := 9) (r := x0) (as := [vL x2, vL 0, vL 4]) (st := []) rfl dX10_step_77 mOKX10_isIn ⟨mlX10_106, imX10_isIn, seX10_isIn⟩ (by decide) (Nat.le_of_ble_eq_true rfl) rfl (Nat.le_of_ble_eq_true rfl) ⟨by decide, rfl⟩ o1 (sX10_isIn ?_)
        refine e_if_eq (tgt := 96) dX10_step_80 (by decide) (fun c => ?_) (fun c => ?_)
        · replace h := h.1 c
          refine e_iconst dX10_step_96 (by unfold InR; decide) ?_
          exact e_ireturn dX10_step_97 rfl ⟨_, rfl, h⟩
        · replace h := h.2 c
          refine e_aload_n 0 dX10_step_83 rfl ?_
          refine e_getR dX10_step_84 flX10_49 rfl o1 ?_
          refine e_iconst dX10_step_87 (by unfold InR; decide) ?_
          refine e_iload_n 1 dX10_step_88 rfl ?_
          refine e_imul dX10_step_89 ?_
          refine e_iload_n 2 dX10_step_90 rfl ?_
          refine e_iadd dX10_step_91 ?_
          have o2 := h.1
          replace h := h.2
          have o3 := h.1
          replace h := h.2
          refine e_iald dX10_step_92 o2 o3 ?_
          refine e_goto (tgt := 97) dX10_step_93 (by decide) ?_
          exact e_ireturn dX10_step_97 rfl ⟨_, rfl, h⟩
    · replace h := h.2 c
      refine e_iload_n 2 dX10_step_19 rfl ?_
      refine e_if_ne (tgt := 30) dX10_step_20 (by decide) (fun c => ?_) (fun c => ?_)
      · replace h := h.1 c
        refine e_iload_n 2 dX10_step_30 rfl ?_
        refine e_iconst dX10_step_31 (by unfold InR; decide) ?_
        refine e_icmp_ne (tgt := 42) dX10_step_32 (by decide) (fun c => ?_) (fun c => ?_)
        · replace h := h.1 c
          refine e_iload_n 2 dX10_step_42 rfl ?_
          refine e_iconst dX10_step_43 (by unfold InR; decide) ?_
          refine e_icmp_ne (tgt := 51) dX10_step_44 (by decide) (fun c => ?_) (fun c => ?_)
          · replace h := h.1 c
            refine e_iconst dX10_step_51 (by unfold InR; decide) ?_
            exact e_ireturn dX10_step_52 rfl ⟨_, rfl, h⟩
          · replace h := h.2 c
            refine e_iconst dX10_step_47 (by unfold InR; decide) ?_
            refine e_goto (tgt := 52) dX10_step_48 (by decide) ?_
            exact e_ireturn dX10_step_52 rfl ⟨_, rfl, h⟩
        · replace h := h.2 c
          refine e_aload_n 0 dX10_step_35 rfl ?_
          refine e_getI dX10_step_36 flX10_228 rfl o1 ?_
          refine e_goto (tgt := 52) dX10_step_39 (by decide) ?_
          exact e_ireturn dX10_step_52 rfl ⟨_, rfl, h⟩
      · replace h := h.2 c
        refine e_aload_n 0 dX10_step_23 rfl ?_
        refine e_getI dX10_step_24 flX10_238 rfl o1 ?_
        refine e_goto (tgt := 52) dX10_step_27 (by decide) ?_
        exact e_ireturn dX10_step_52 rfl ⟨_, rfl, h⟩
  · replace h := h.2 c
    refine e_iconst dX10_step_12 (by unfold InR; decide) ?_
    exact e_ireturn dX10_step_13 rfl ⟨_, rfl, h⟩

def vX10_bound (I : MI) (x0 : Nat) : Int := (if (I x0 1) ≠ 1 then (if (I x0 1) ≠ 2 then 8 else 12) else 24)
def pX10_bound (S : Sh) (x0 : Nat) : Prop := (sT S x0 = 10 ∧ True)
set_option maxRecDepth 100000 in
set_option maxHeartbeats 4000000 in
theorem sX10_bound {G : Gl} {S : Sh} {I : MI} {R : MR} {Q : Sh → MI → MR → Int → Prop} {x0 : Nat} (hp : pX10_bound S x0) (hq : Q S I R (vX10_bound I x0)) : CI G MX10_bound [vR x0] S I R Q := by
  show E G MX10_bound 0 [(0, vR x0)] [] S I R (qI Q)
  unfold vX10_bound at hq
  unfold pX10_bound at hp
  refine e_aload_n 0 dX10_bound_0 rfl ?_
  have o1 := hp.1
  replace hp := hp.2
  refine e_getI dX10_bound_1 flX10_7 rfl o1 ?_
  refine e_iconst dX10_bound_4 (by unfold InR; decide) ?_
  refine e_icmp_ne (tgt := 13) dX10_bound_5 (by decide) (fun c => ?_) (fun c => ?_)
  · rw [if_pos c] at hq
    refine e_aload_n 0 dX10_bound_13 rfl ?_
    refine e_getI dX10_bound_14 flX10_7 rfl o1 ?_
    refine e_iconst dX10_bound_17 (by unfold InR; decide) ?_
    refine e_icmp_ne (tgt := 26) dX10_bound_18 (by decide) (fun c => ?_) (fun c => ?_)
    · rw [if_pos c] at hq
      refine e_bipush (x := 8) dX10_bound_26 ⟨by decide +kernel, by unfold InR; decide⟩ ?_
      exact e_ireturn dX10_bound_28 rfl ⟨_, rfl, hq⟩
    · rw [if_neg c] at hq
      refine e_bipush (x := 12) dX10_bound_21 ⟨by decide +kernel, by unfold InR; decide⟩ ?_
      refine e_goto (tgt := 28) dX10_bound_23 (by decide) ?_
      exact e_ireturn dX10_bound_28 rfl ⟨_, rfl, hq⟩
  · rw [if_neg c] at hq
    refine e_bipush (x := 24) dX10_bound_8 ⟨by decide +kernel, by unfold InR; decide⟩ ?_
    refine e_goto (tgt := 28) dX10_bound_10 (by decide) ?_
    exact e_ireturn dX10_bound_28 rfl ⟨_, rfl, hq⟩

def LX10_laysMonomials_7 (G : Gl) (x0 : Nat) (x1 : Int) (x2 : Int) (S : Sh) (I : MI) (R : MR) (Q : Sh → MI → MR → Prop) : Prop := E G MX10_laysMonomials 7 [(0, vR x0), (1, vI x1), (2, vI x2)] [] S I R (qV Q)
def LX10_laysMonomials_108 (G : Gl) (x0 : Nat) (x2 : Int) (S : Sh) (I : MI) (R : MR) (Q : Sh → MI → MR → Prop) : Prop := E G MX10_laysMonomials 108 [(0, vR x0), (2, vI x2)] [] S I R (qV Q)
def LX10_laysMonomials_20 (G : Gl) (x0 : Nat) (x1 : Int) (x2 : Int) (x3 : Int) (S : Sh) (I : MI) (R : MR) (Q : Sh → MI → MR → Prop) : Prop := E G MX10_laysMonomials 20 [(0, vR x0), (1, vI x1), (2, vI x2), (3, vI x3)] [] S I R (qV Q)
def LX10_laysMonomials_46 (G : Gl) (x0 : Nat) (x1 : Int) (x2 : Int) (x3 : Int) (x4 : Int) (S : Sh) (I : MI) (R : MR) (Q : Sh → MI → MR → Prop) : Prop := E G MX10_laysMonomials 46 [(0, vR x0), (1, vI x1), (2, vI x2), (3, vI x3), (4, vI x4)] [] S I R (qV Q)
set_option maxRecDepth 100000 in
set_option maxHeartbeats 4000000 in
theorem bX10_laysMonomials {G : Gl} {S : Sh} {I : MI} {R : MR} {Q : Sh → MI → MR → Prop} {x0 : Nat} {x1 : Int} (h : (sT S x0 = 10 ∧ (∀ I2, I2 = up2 I x0 9 0 → LX10_laysMonomials_7 G x0 x1 0 S I2 R Q))) : CV G MX10_laysMonomials [vR x0, vI x1] S I R Q := by
  show E G MX10_laysMonomials 0 [(0, vR x0), (1, vI x1)] [] S I R (qV Q)
  refine e_aload_n 0 dX10_laysMonomials_0 rfl ?_
  refine e_iconst dX10_laysMonomials_1 (by unfold InR; decide) ?_
  have o1 := h.1
  replace h := h.2
  obtain ⟨I2, eI2⟩ : ∃ z : MI, z = up2 I x0 9 0 := ⟨_, rfl⟩
  replace h := h I2 eI2
  refine e_putI dX10_laysMonomials_2 flX10_93 rfl (Or.inl rfl) o1 (eqI eI2 ?_)
  refine e_iconst dX10_laysMonomials_5 (by unfold InR; decide) ?_
  refine e_istore_n (ls2 := [(2, vI 0), (0, vR x0), (1, vI x1)]) dX10_laysMonomials_6 (by decide) rfl ?_
  exact e_sub (ls2 := [(0, vR x0), (1, vI x1), (2, vI 0)]) [1, 2, 0] rfl h
set_option maxRecDepth 100000 in
set_option maxHeartbeats 4000000 in
theorem bX10_laysMonomials_7 {G : Gl} {S : Sh} {I : MI} {R : MR} {Q : Sh → MI → MR → Prop} {x0 : Nat} {x1 : Int} {x2 : Int} (h : (sT S x0 = 10 ∧ ((pX10_degreeOf S I R x0 x2 0 0) ∧ ((x1 ≤ (vX10_degreeOf I R x0 x2 0 0) → (∀ I103, I103 = up2 I x0 28 (I x0 9) → LX10_laysMonomials_108 G x0 0 S I103 R Q)) ∧ (¬ (x1 ≤ (vX10_degreeOf I R x0 x2 0 0)) → LX10_laysMonomials_20 G x0 x1 x2 0 S I R Q))))) : LX10_laysMonomials_7 G x0 x1 x2 S I R Q := by
  show E G MX10_laysMonomials 7 [(0, vR x0), (1, vI x1), (2, vI x2)] [] S I R (qV Q)
  refine e_aload_n 0 dX10_laysMonomials_7 rfl ?_
  refine e_iload_n 2 dX10_laysMonomials_8 rfl ?_
  refine e_iconst dX10_laysMonomials_9 (by unfold InR; decide) ?_
  refine e_iconst dX10_laysMonomials_10 (by unfold InR; decide) ?_
  have o2 := h.1
  replace h := h.2
  have o3 := h.1
  replace h := h.2
  refine i_VI (μ' := MX10_degreeOf) (ci := 9) (r := x0) (as := [vI x2, vI 0, vI 0]) (st := []) rfl dX10_laysMonomials_11 mOKX10_degreeOf ⟨mlX10_76, imX10_degreeOf, seX10_degreeOf⟩ (by decide) (Nat.le_of_ble_eq_true rfl) rfl (Nat.le_of_ble_eq_true rfl) ⟨by decide, rfl⟩ o2 (sX10_degreeOf o3 ?_)
  refine e_iload_n 1 dX10_laysMonomials_14 rfl ?_
  refine e_icmp_ge (tgt := 98) dX10_laysMonomials_15 (by decide) (fun c => ?_) (fun c => ?_)
  · replace h := h.1 c
    refine e_aload_n 0 dX10_laysMonomials_98 rfl ?_
    refine e_aload_n 0 dX10_laysMonomials_99 rfl ?_
    refine e_getI dX10_laysMonomials_100 flX10_93 rfl o2 ?_
    obtain ⟨I103, eI103⟩ : ∃ z : MI, z = up2 I x0 28 (I x0 9) := ⟨_, rfl⟩
    replace h := h I103 eI103
    refine e_putI dX10_laysMonomials_103 flX10_283 rfl (Or.inl rfl) o2 (eqI eI103 ?_)
    refine e_iconst dX10_laysMonomials_106 (by unfold InR; decide) ?_
    refine e_istore_n (ls2 := [(2, vI 0), (0, vR x0), (1, vI x1)]) dX10_laysMonomials_107 (by decide) rfl ?_
    exact e_sub (ls2 := [(0, vR x0), (2, vI 0)]) [1, 0] rfl h
  · replace h := h.2 c
    refine e_iconst dX10_laysMonomials_18 (by unfold InR; decide) ?_
    refine e_istore_n (ls2 := [(3, vI 0), (0, vR x0), (1, vI x1), (2, vI x2)]) dX10_laysMonomials_19 (by decide) rfl ?_
    exact e_sub (ls2 := [(0, vR x0), (1, vI x1), (2, vI x2), (3, vI 0)]) [1, 2, 3, 0] rfl h
set_option maxRecDepth 100000 in
set_option maxHeartbeats 4000000 in
theorem bX10_laysMonomials_108 {G : Gl} {S : Sh} {I : MI} {R : MR} {Q : Sh → MI → MR → Prop} {x0 : Nat} {x2 : Int} (h : (sT S x0 = 10 ∧ (((w32 (3 * (I x0 9))) ≤ x2 → Q S I R) ∧ (¬ ((w32 (3 * (I x0 9))) ≤ x2) → (sT S (R x0 8) = 21 ∧ (((0 : Int) ≤ x2 ∧ x2 < (sL S (R x0 8) : Int)) ∧ (sT S (R x0 27) = 21 ∧ (((0 : Int) ≤ x2 ∧ x2 < (sL S (R x0 27) : Int)) ∧ (∀ I129, I129 = up2 I (R x0 27) (Int.toNat x2) (I (R x0 8) (Int.toNat x2)) → LX10_laysMonomials_108 G x0 (w32 (x2 + 1)) S I129 R Q))))))))) : LX10_laysMonomials_108 G x0 x2 S I R Q := by
  show E G MX10_laysMonomials 108 [(0, vR x0), (2, vI x2)] [] S I R (qV Q)
  refine e_iload_n 1 dX10_laysMonomials_108 rfl ?_
  refine e_iconst dX10_laysMonomials_109 (by unfold InR; decide) ?_
  refine e_aload_n 0 dX10_laysMonomials_110 rfl ?_
  have o4 := h.1
  replace h := h.2
  refine e_getI dX10_laysMonomials_111 flX10_93 rfl o4 ?_
  refine e_imul dX10_laysMonomials_114 ?_
  refine e_icmp_ge (tgt := 136) dX10_laysMonomials_115 (by decide) (fun c => ?_) (fun c => ?_)
  · replace h := h.1 c
    exact e_return dX10_laysMonomials_136 rfl ⟨rfl, h⟩
  · replace h := h.2 c
    refine e_aload_n 0 dX10_laysMonomials_118 rfl ?_
    refine e_getR dX10_laysMonomials_119 flX10_52 rfl o4 ?_
    refine e_iload_n 1 dX10_laysMonomials_122 rfl ?_
    refine e_aload_n 0 dX10_laysMonomials_123 rfl ?_
    refine e_getR dX10_laysMonomials_124 flX10_33 rfl o4 ?_
    refine e_iload_n 1 dX10_laysMonomials_127 rfl ?_
    have o5 := h.1
    replace h := h.2
    have o6 := h.1
    replace h := h.2
    refine e_iald dX10_laysMonomials_128 o5 o6 ?_
    have o7 := h.1
    replace h := h.2
    have o8 := h.1
    replace h := h.2
    obtain ⟨I129, eI129⟩ : ∃ z : MI, z = up2 I (R x0 27) (Int.toNat x2) (I (R x0 8) (Int.toNat x2)) := ⟨_, rfl⟩
    replace h := h I129 eI129
    refine e_iast dX10_laysMonomials_129 o7 o8 (eqI eI129 ?_)
    refine e_iinc (ls2 := [(2, vI (w32 (x2 + 1))), (0, vR x0)]) 1 dX10_laysMonomials_130 rfl (by decide) rfl ?_
    refine e_goto (tgt := 108) dX10_laysMonomials_133 (by decide) ?_
    exact e_sub (ls2 := [(0, vR x0), (2, vI (w32 (x2 + 1)))]) [1, 0] rfl h
set_option maxRecDepth 100000 in
set_option maxHeartbeats 4000000 in
theorem bX10_laysMonomials_20 {G : Gl} {S : Sh} {I : MI} {R : MR} {Q : Sh → MI → MR → Prop} {x0 : Nat} {x1 : Int} {x2 : Int} {x3 : Int} (h : (sT S x0 = 10 ∧ ((pX10_degreeOf S I R x0 x2 x3 0) ∧ ((x1 ≤ (vX10_degreeOf I R x0 x2 x3 0) → LX10_laysMonomials_7 G x0 x1 (w32 (x2 + 1)) S I R Q) ∧ (¬ (x1 ≤ (vX10_degreeOf I R x0 x2 x3 0)) → ((1 < (I x0 1) → LX10_laysMonomials_46 G x0 x1 x2 x3 0 S I R Q) ∧ (¬ (1 < (I x0 1)) → ((x3 ≠ 0 → LX10_laysMonomials_7 G x0 x1 (w32 (x2 + 1)) S I R Q) ∧ (¬ (x3 ≠ 0) → LX10_laysMonomials_46 G x0 x1 x2 x3 0 S I R Q))))))))) : LX10_laysMonomials_20 G x0 x1 x2 x3 S I R Q := by
  show E G MX10_laysMonomials 20 [(0, vR x0), (1, vI x1), (2, vI x2), (3, vI x3)] [] S I R (qV Q)
  refine e_aload_n 0 dX10_laysMonomials_20 rfl ?_
  refine e_iload_n 2 dX10_laysMonomials_21 rfl ?_
  refine e_iload_n 3 dX10_laysMonomials_22 rfl ?_
  refine e_iconst dX10_laysMonomials_23 (by unfold InR; decide) ?_
  have o9 := h.1
  replace h := h.2
  have o10 := h.1
  replace h := h.2
  refine i_VI (μ' := MX10_degreeOf) (ci := 9) (r := x0) (as := [vI x2, vI x3, vI 0]) (st := []) rfl dX10_laysMonomials_24 mOKX10_degreeOf ⟨mlX10_76, imX10_degreeOf, seX10_degreeOf⟩ (by decide) (Nat.le_of_ble_eq_true rfl) rfl (Nat.le_of_ble_eq_true rfl) ⟨by decide, rfl⟩ o9 (sX10_degreeOf o10 ?_)
  refine e_iload_n 1 dX10_laysMonomials_27 rfl ?_
  refine e_icmp_ge (tgt := 92) dX10_laysMonomials_28 (by decide) (fun c => ?_) (fun c => ?_)
  · replace h := h.1 c
    refine e_iinc (ls2 := [(2, vI (w32 (x2 + 1))), (0, vR x0), (1, vI x1), (3, vI x3)]) 2 dX10_laysMonomials_92 rfl (by decide) rfl ?_
    refine e_goto (tgt := 7) dX10_laysMonomials_95 (by decide) ?_
    exact e_sub (ls2 := [(0, vR x0), (1, vI x1), (2, vI (w32 (x2 + 1)))]) [1, 2, 0] rfl h
  · replace h := h.2 c
    refine e_aload_n 0 dX10_laysMonomials_31 rfl ?_
    refine e_getI dX10_laysMonomials_32 flX10_7 rfl o9 ?_
    refine e_iconst dX10_laysMonomials_35 (by unfold InR; decide) ?_
    refine e_icmp_gt (tgt := 43) dX10_laysMonomials_36 (by decide) (fun c => ?_) (fun c => ?_)
    · replace h := h.1 c
      refine e_iconst dX10_laysMonomials_43 (by unfold InR; decide) ?_
      refine e_istore (ls2 := [(4, vI 0), (0, vR x0), (1, vI x1), (2, vI x2), (3, vI x3)]) dX10_laysMonomials_44 (by decide) rfl ?_
      exact e_sub (ls2 := [(0, vR x0), (1, vI x1), (2, vI x2), (3, vI x3), (4, vI 0)]) [1, 2, 3, 4, 0] rfl h
    · replace h := h.2 c
      refine e_iload_n 3 dX10_laysMonomials_39 rfl ?_
      refine e_if_ne (tgt := 92) dX10_laysMonomials_40 (by decide) (fun c => ?_) (fun c => ?_)
      · replace h := h.1 c
        refine e_iinc (ls2 := [(2, vI (w32 (x2 + 1))), (0, vR x0), (1, vI x1), (3, vI x3)]) 2 dX10_laysMonomials_92 rfl (by decide) rfl ?_
        refine e_goto (tgt := 7) dX10_laysMonomials_95 (by decide) ?_
        exact e_sub (ls2 := [(0, vR x0), (1, vI x1), (2, vI (w32 (x2 + 1)))]) [1, 2, 0] rfl h
      · replace h := h.2 c
        refine e_iconst dX10_laysMonomials_43 (by unfold InR; decide) ?_
        refine e_istore (ls2 := [(4, vI 0), (0, vR x0), (1, vI x1), (2, vI x2), (3, vI x3)]) dX10_laysMonomials_44 (by decide) rfl ?_
        exact e_sub (ls2 := [(0, vR x0), (1, vI x1), (2, vI x2), (3, vI x3), (4, vI 0)]) [1, 2, 3, 4, 0] rfl h
set_option maxRecDepth 100000 in
set_option maxHeartbeats 4000000 in
theorem bX10_laysMonomials_46 {G : Gl} {S : Sh} {I : MI} {R : MR} {Q : Sh → MI → MR → Prop} {x0 : Nat} {x1 : Int} {x2 : Int} {x3 : Int} {x4 : Int} (h : (sT S x0 = 10 ∧ ((pX10_degreeOf S I R x0 x2 x3 x4) ∧ ((x1 ≤ (vX10_degreeOf I R x0 x2 x3 x4) → LX10_laysMonomials_20 G x0 x1 x2 (w32 (x3 + 1)) S I R Q) ∧ (¬ (x1 ≤ (vX10_degreeOf I R x0 x2 x3 x4)) → ((2 < (I x0 1) → (CV G MX10_heaps [vR x0, vI 1, vI x2, vI x3, vI x4] S I R (fun S77 I77 R77 => LX10_laysMonomials_46 G x0 x1 x2 x3 (w32 (x4 + 1)) S77 I77 R77 Q))) ∧ (¬ (2 < (I x0 1)) → ((x4 ≠ 0 → LX10_laysMonomials_20 G x0 x1 x2 (w32 (x3 + 1)) S I R Q) ∧ (¬ (x4 ≠ 0) → (CV G MX10_heaps [vR x0, vI 1, vI x2, vI x3, vI x4] S I R (fun S77 I77 R77 => LX10_laysMonomials_46 G x0 x1 x2 x3 (w32 (x4 + 1)) S77 I77 R77 Q))))))))))) : LX10_laysMonomials_46 G x0 x1 x2 x3 x4 S I R Q := by
  show E G MX10_laysMonomials 46 [(0, vR x0), (1, vI x1), (2, vI x2), (3, vI x3), (4, vI x4)] [] S I R (qV Q)
  refine e_aload_n 0 dX10_laysMonomials_46 rfl ?_
  refine e_iload_n 2 dX10_laysMonomials_47 rfl ?_
  refine e_iload_n 3 dX10_laysMonomials_48 rfl ?_
  refine e_iload 4 dX10_laysMonomials_49 rfl ?_
  have o11 := h.1
  replace h := h.2
  have o12 := h.1
  replace h := h.2
  refine i_VI (μ' := MX10_degreeOf) (ci := 9) (r := x0) (as := [vI x2, vI x3, vI x4]) (st := []) rfl dX10_laysMonomials_51 mOKX10_degreeOf ⟨mlX10_76, imX10_degreeOf, seX10_degreeOf⟩ (by decide) (Nat.le_of_ble_eq_true rfl) rfl (Nat.le_of_ble_eq_true rfl) ⟨by decide, rfl⟩ o11 (sX10_degreeOf o12 ?_)
  refine e_iload_n 1 dX10_laysMonomials_54 rfl ?_
  refine e_icmp_ge (tgt := 86) dX10_laysMonomials_55 (by decide) (fun c => ?_) (fun c => ?_)
  · replace h := h.1 c
    refine e_iinc (ls2 := [(3, vI (w32 (x3 + 1))), (0, vR x0), (1, vI x1), (2, vI x2), (4, vI x4)]) 3 dX10_laysMonomials_86 rfl (by decide) rfl ?_
    refine e_goto (tgt := 20) dX10_laysMonomials_89 (by decide) ?_
    exact e_sub (ls2 := [(0, vR x0), (1, vI x1), (2, vI x2), (3, vI (w32 (x3 + 1)))]) [1, 2, 3, 0] rfl h
  · replace h := h.2 c
    refine e_aload_n 0 dX10_laysMonomials_58 rfl ?_
    refine e_getI dX10_laysMonomials_59 flX10_7 rfl o11 ?_
    refine e_iconst dX10_laysMonomials_62 (by unfold InR; decide) ?_
    refine e_icmp_gt (tgt := 71) dX10_laysMonomials_63 (by decide) (fun c => ?_) (fun c => ?_)
    · replace h := h.1 c
      refine e_aload_n 0 dX10_laysMonomials_71 rfl ?_
      refine e_iconst dX10_laysMonomials_72 (by unfold InR; decide) ?_
      refine e_iload_n 2 dX10_laysMonomials_73 rfl ?_
      refine e_iload_n 3 dX10_laysMonomials_74 rfl ?_
      refine e_iload 4 dX10_laysMonomials_75 rfl ?_
      refine i_VV (μ' := MX10_heaps) (ci := 9) (r := x0) (as := [vI 1, vI x2, vI x3, vI x4]) (st := []) rfl dX10_laysMonomials_77 mOKX10_heaps ⟨mlX10_100, imX10_heaps, seX10_heaps⟩ (by decide) (Nat.le_of_ble_eq_true rfl) rfl (Nat.le_of_ble_eq_true rfl) ⟨by decide, rfl⟩ o11 (CV.mono h ?_)
      clear h
      intro S77 I77 R77 h
      refine e_iinc (ls2 := [(4, vI (w32 (x4 + 1))), (0, vR x0), (1, vI x1), (2, vI x2), (3, vI x3)]) 4 dX10_laysMonomials_80 rfl (by decide) rfl ?_
      refine e_goto (tgt := 46) dX10_laysMonomials_83 (by decide) ?_
      exact e_sub (ls2 := [(0, vR x0), (1, vI x1), (2, vI x2), (3, vI x3), (4, vI (w32 (x4 + 1)))]) [1, 2, 3, 4, 0] rfl h
    · replace h := h.2 c
      refine e_iload 4 dX10_laysMonomials_66 rfl ?_
      refine e_if_ne (tgt := 86) dX10_laysMonomials_68 (by decide) (fun c => ?_) (fun c => ?_)
      · replace h := h.1 c
        refine e_iinc (ls2 := [(3, vI (w32 (x3 + 1))), (0, vR x0), (1, vI x1), (2, vI x2), (4, vI x4)]) 3 dX10_laysMonomials_86 rfl (by decide) rfl ?_
        refine e_goto (tgt := 20) dX10_laysMonomials_89 (by decide) ?_
        exact e_sub (ls2 := [(0, vR x0), (1, vI x1), (2, vI x2), (3, vI (w32 (x3 + 1)))]) [1, 2, 3, 0] rfl h
      · replace h := h.2 c
        refine e_aload_n 0 dX10_laysMonomials_71 rfl ?_
        refine e_iconst dX10_laysMonomials_72 (by unfold InR; decide) ?_
        refine e_iload_n 2 dX10_laysMonomials_73 rfl ?_
        refine e_iload_n 3 dX10_laysMonomials_74 rfl ?_
        refine e_iload 4 dX10_laysMonomials_75 rfl ?_
        refine i_VV (μ' := MX10_heaps) (ci := 9) (r := x0) (as := [vI 1, vI x2, vI x3, vI x4]) (st := []) rfl dX10_laysMonomials_77 mOKX10_heaps ⟨mlX10_100, imX10_heaps, seX10_heaps⟩ (by decide) (Nat.le_of_ble_eq_true rfl) rfl (Nat.le_of_ble_eq_true rfl) ⟨by decide, rfl⟩ o11 (CV.mono h ?_)
        clear h
        intro S77 I77 R77 h
        refine e_iinc (ls2 := [(4, vI (w32 (x4 + 1))), (0, vR x0), (1, vI x1), (2, vI x2), (3, vI x3)]) 4 dX10_laysMonomials_80 rfl (by decide) rfl ?_
        refine e_goto (tgt := 46) dX10_laysMonomials_83 (by decide) ?_
        exact e_sub (ls2 := [(0, vR x0), (1, vI x1), (2, vI x2), (3, vI x3), (4, vI (w32 (x4 + 1)))]) [1, 2, 3, 4, 0] rfl h

def vX10_degreeAt (I : MI) (R : MR) (x0 : Nat) (x1 : Int) : Int := (vX10_degreeOf I R x0 (I (R x0 27) (Int.toNat (w32 (3 * x1)))) (I (R x0 27) (Int.toNat (w32 ((w32 (3 * x1)) + 1)))) (I (R x0 27) (Int.toNat (w32 ((w32 (3 * x1)) + 2)))))
def pX10_degreeAt (S : Sh) (I : MI) (R : MR) (x0 : Nat) (x1 : Int) : Prop := (sT S x0 = 10 ∧ (sT S (R x0 27) = 21 ∧ (((0 : Int) ≤ (w32 (3 * x1)) ∧ (w32 (3 * x1)) < (sL S (R x0 27) : Int)) ∧ (((0 : Int) ≤ (w32 ((w32 (3 * x1)) + 1)) ∧ (w32 ((w32 (3 * x1)) + 1)) < (sL S (R x0 27) : Int)) ∧ (((0 : Int) ≤ (w32 ((w32 (3 * x1)) + 2)) ∧ (w32 ((w32 (3 * x1)) + 2)) < (sL S (R x0 27) : Int)) ∧ ((pX10_degreeOf S I R x0 (I (R x0 27) (Int.toNat (w32 (3 * x1)))) (I (R x0 27) (Int.toNat (w32 ((w32 (3 * x1)) + 1)))) (I (R x0 27) (Int.toNat (w32 ((w32 (3 * x1)) + 2))))) ∧ True))))))
set_option maxRecDepth 100000 in
set_option maxHeartbeats 4000000 in
theorem sX10_degreeAt {G : Gl} {S : Sh} {I : MI} {R : MR} {Q : Sh → MI → MR → Int → Prop} {x0 : Nat} {x1 : Int} (hp : pX10_degreeAt S I R x0 x1) (hq : Q S I R (vX10_degreeAt I R x0 x1)) : CI G MX10_degreeAt [vR x0, vI x1] S I R Q := by
  show E G MX10_degreeAt 0 [(0, vR x0), (1, vI x1)] [] S I R (qI Q)
  unfold vX10_degreeAt at hq
  unfold pX10_degreeAt at hp
  refine e_aload_n 0 dX10_degreeAt_0 rfl ?_
  refine e_aload_n 0 dX10_degreeAt_1 rfl ?_
  have o1 := hp.1
  replace hp := hp.2
  refine e_getR dX10_degreeAt_2 flX10_52 rfl o1 ?_
  refine e_iconst dX10_degreeAt_5 (by unfold InR; decide) ?_
  refine e_iload_n 1 dX10_degreeAt_6 rfl ?_
  refine e_imul dX10_degreeAt_7 ?_
  have o2 := hp.1
  replace hp := hp.2
  have o3 := hp.1
  replace hp := hp.2
  refine e_iald dX10_degreeAt_8 o2 o3 ?_
  refine e_aload_n 0 dX10_degreeAt_9 rfl ?_
  refine e_getR dX10_degreeAt_10 flX10_52 rfl o1 ?_
  refine e_iconst dX10_degreeAt_13 (by unfold InR; decide) ?_
  refine e_iload_n 1 dX10_degreeAt_14 rfl ?_
  refine e_imul dX10_degreeAt_15 ?_
  refine e_iconst dX10_degreeAt_16 (by unfold InR; decide) ?_
  refine e_iadd dX10_degreeAt_17 ?_
  have o4 := hp.1
  replace hp := hp.2
  refine e_iald dX10_degreeAt_18 o2 o4 ?_
  refine e_aload_n 0 dX10_degreeAt_19 rfl ?_
  refine e_getR dX10_degreeAt_20 flX10_52 rfl o1 ?_
  refine e_iconst dX10_degreeAt_23 (by unfold InR; decide) ?_
  refine e_iload_n 1 dX10_degreeAt_24 rfl ?_
  refine e_imul dX10_degreeAt_25 ?_
  refine e_iconst dX10_degreeAt_26 (by unfold InR; decide) ?_
  refine e_iadd dX10_degreeAt_27 ?_
  have o5 := hp.1
  replace hp := hp.2
  refine e_iald dX10_degreeAt_28 o2 o5 ?_
  have o6 := hp.1
  replace hp := hp.2
  refine i_VI (μ' := MX10_degreeOf) (ci := 9) (r := x0) (as := [vI (I (R x0 27) (Int.toNat (w32 (3 * x1)))), vI (I (R x0 27) (Int.toNat (w32 ((w32 (3 * x1)) + 1)))), vI (I (R x0 27) (Int.toNat (w32 ((w32 (3 * x1)) + 2))))]) (st := []) rfl dX10_degreeAt_29 mOKX10_degreeOf ⟨mlX10_76, imX10_degreeOf, seX10_degreeOf⟩ (by decide) (Nat.le_of_ble_eq_true rfl) rfl (Nat.le_of_ble_eq_true rfl) ⟨by decide, rfl⟩ o1 (sX10_degreeOf o6 ?_)
  exact e_ireturn dX10_degreeAt_32 rfl ⟨_, rfl, hq⟩

def LX10_placeOf_9 (G : Gl) (x0 : Nat) (x1 : Int) (x2 : Int) (x3 : Int) (x4 : Int) (x5 : Int) (S : Sh) (I : MI) (R : MR) (Q : Sh → MI → MR → Int → Prop) : Prop := E G MX10_placeOf 9 [(0, vR x0), (1, vI x1), (2, vI x2), (3, vI x3), (4, vI x4), (5, vI x5)] [] S I R (qI Q)
set_option maxRecDepth 100000 in
set_option maxHeartbeats 4000000 in
theorem bX10_placeOf {G : Gl} {S : Sh} {I : MI} {R : MR} {Q : Sh → MI → MR → Int → Prop} {x0 : Nat} {x1 : Int} {x2 : Int} {x3 : Int} (h : (sT S x0 = 10 ∧ LX10_placeOf_9 G x0 x1 x2 x3 0 (I x0 28) S I R Q)) : CI G MX10_placeOf [vR x0, vI x1, vI x2, vI x3] S I R Q := by
  show E G MX10_placeOf 0 [(0, vR x0), (1, vI x1), (2, vI x2), (3, vI x3)] [] S I R (qI Q)
  refine e_iconst dX10_placeOf_0 (by unfold InR; decide) ?_
  refine e_istore (ls2 := [(4, vI 0), (0, vR x0), (1, vI x1), (2, vI x2), (3, vI x3)]) dX10_placeOf_1 (by decide) rfl ?_
  refine e_aload_n 1 dX10_placeOf_3 rfl ?_
  have o1 := h.1
  replace h := h.2
  refine e_getI dX10_placeOf_4 flX10_283 rfl o1 ?_
  refine e_istore (ls2 := [(5, vI (I x0 28)), (4, vI 0), (0, vR x0), (1, vI x1), (2, vI x2), (3, vI x3)]) dX10_placeOf_7 (by decide) rfl ?_
  exact e_sub (ls2 := [(0, vR x0), (1, vI x1), (2, vI x2), (3, vI x3), (4, vI 0), (5, vI (I x0 28))]) [2, 3, 4, 5, 1, 0] rfl h
set_option maxRecDepth 100000 in
set_option maxHeartbeats 4000000 in
theorem bX10_placeOf_9 {G : Gl} {S : Sh} {I : MI} {R : MR} {Q : Sh → MI → MR → Int → Prop} {x0 : Nat} {x1 : Int} {x2 : Int} {x3 : Int} {x4 : Int} {x5 : Int} (h : ((x5 ≤ x4 → (sT S x0 = 10 ∧ ((x4 = (I x0 28) → Q S I R (-1)) ∧ (¬ (x4 = (I x0 28)) → (sT S (R x0 27) = 21 ∧ (((0 : Int) ≤ (w32 (3 * x4)) ∧ (w32 (3 * x4)) < (sL S (R x0 27) : Int)) ∧ (((0 : Int) ≤ (w32 ((w32 (3 * x4)) + 1)) ∧ (w32 ((w32 (3 * x4)) + 1)) < (sL S (R x0 27) : Int)) ∧ (((0 : Int) ≤ (w32 ((w32 (3 * x4)) + 2)) ∧ (w32 ((w32 (3 * x4)) + 2)) < (sL S (R x0 27) : Int)) ∧ ((pX10_compares S I R x0 (I (R x0 27) (Int.toNat (w32 (3 * x4)))) (I (R x0 27) (Int.toNat (w32 ((w32 (3 * x4)) + 1)))) (I (R x0 27) (Int.toNat (w32 ((w32 (3 * x4)) + 2)))) x1 x2 x3) ∧ (((vX10_compares I R x0 (I (R x0 27) (Int.toNat (w32 (3 * x4)))) (I (R x0 27) (Int.toNat (w32 ((w32 (3 * x4)) + 1)))) (I (R x0 27) (Int.toNat (w32 ((w32 (3 * x4)) + 2)))) x1 x2 x3) = 0 → Q S I R x4) ∧ (¬ ((vX10_compares I R x0 (I (R x0 27) (Int.toNat (w32 (3 * x4)))) (I (R x0 27) (Int.toNat (w32 ((w32 (3 * x4)) + 1)))) (I (R x0 27) (Int.toNat (w32 ((w32 (3 * x4)) + 2)))) x1 x2 x3) = 0) → Q S I R (-1)))))))))))) ∧ (¬ (x5 ≤ x4) → (sT S x0 = 10 ∧ (sT S (R x0 27) = 21 ∧ (((0 : Int) ≤ (w32 (3 * (idiv (w32 (x4 + x5)) 2))) ∧ (w32 (3 * (idiv (w32 (x4 + x5)) 2))) < (sL S (R x0 27) : Int)) ∧ (((0 : Int) ≤ (w32 ((w32 (3 * (idiv (w32 (x4 + x5)) 2))) + 1)) ∧ (w32 ((w32 (3 * (idiv (w32 (x4 + x5)) 2))) + 1)) < (sL S (R x0 27) : Int)) ∧ (((0 : Int) ≤ (w32 ((w32 (3 * (idiv (w32 (x4 + x5)) 2))) + 2)) ∧ (w32 ((w32 (3 * (idiv (w32 (x4 + x5)) 2))) + 2)) < (sL S (R x0 27) : Int)) ∧ ((pX10_compares S I R x0 (I (R x0 27) (Int.toNat (w32 (3 * (idiv (w32 (x4 + x5)) 2))))) (I (R x0 27) (Int.toNat (w32 ((w32 (3 * (idiv (w32 (x4 + x5)) 2))) + 1)))) (I (R x0 27) (Int.toNat (w32 ((w32 (3 * (idiv (w32 (x4 + x5)) 2))) + 2)))) x1 x2 x3) ∧ ((0 ≤ (vX10_compares I R x0 (I (R x0 27) (Int.toNat (w32 (3 * (idiv (w32 (x4 + x5)) 2))))) (I (R x0 27) (Int.toNat (w32 ((w32 (3 * (idiv (w32 (x4 + x5)) 2))) + 1)))) (I (R x0 27) (Int.toNat (w32 ((w32 (3 * (idiv (w32 (x4 + x5)) 2))) + 2)))) x1 x2 x3) → LX10_placeOf_9 G x0 x1 x2 x3 x4 (idiv (w32 (x4 + x5)) 2) S I R Q) ∧ (¬ (0 ≤ (vX10_compares I R x0 (I (R x0 27) (Int.toNat (w32 (3 * (idiv (w32 (x4 + x5)) 2))))) (I (R x0 27) (Int.toNat (w32 ((w32 (3 * (idiv (w32 (x4 + x5)) 2))) + 1)))) (I (R x0 27) (Int.toNat (w32 ((w32 (3 * (idiv (w32 (x4 + x5)) 2))) + 2)))) x1 x2 x3)) → LX10_placeOf_9 G x0 x1 x2 x3 (w32 ((idiv (w32 (x4 + x5)) 2) + 1)) x5 S I R Q))))))))))) : LX10_placeOf_9 G x0 x1 x2 x3 x4 x5 S I R Q := by
  show E G MX10_placeOf 9 [(0, vR x0), (1, vI x1), (2, vI x2), (3, vI x3), (4, vI x4), (5, vI x5)] [] S I R (qI Q)
  refine e_iload 4 dX10_placeOf_9 rfl ?_
  refine e_iload 5 dX10_placeOf_11 rfl ?_
  refine e_icmp_ge (tgt := 82) dX10_placeOf_13 (by decide) (fun c => ?_) (fun c => ?_)
  · replace h := h.1 c
    refine e_iload 4 dX10_placeOf_82 rfl ?_
    refine e_aload_n 0 dX10_placeOf_84 rfl ?_
    have o2 := h.1
    replace h := h.2
    refine e_getI dX10_placeOf_85 flX10_283 rfl o2 ?_
    refine e_icmp_eq (tgt := 132) dX10_placeOf_88 (by decide) (fun c => ?_) (fun c => ?_)
    · replace h := h.1 c
      refine e_iconst dX10_placeOf_132 (by unfold InR; decide) ?_
      exact e_ireturn dX10_placeOf_133 rfl ⟨_, rfl, h⟩
    · replace h := h.2 c
      refine e_aload_n 0 dX10_placeOf_91 rfl ?_
      refine e_aload_n 0 dX10_placeOf_92 rfl ?_
      refine e_getR dX10_placeOf_93 flX10_52 rfl o2 ?_
      refine e_iconst dX10_placeOf_96 (by unfold InR; decide) ?_
      refine e_iload 4 dX10_placeOf_97 rfl ?_
      refine e_imul dX10_placeOf_99 ?_
      have o3 := h.1
      replace h := h.2
      have o4 := h.1
      replace h := h.2
      refine e_iald dX10_placeOf_100 o3 o4 ?_
      refine e_aload_n 0 dX10_placeOf_101 rfl ?_
      refine e_getR dX10_placeOf_102 flX10_52 rfl o2 ?_
      refine e_iconst dX10_placeOf_105 (by unfold InR; decide) ?_
      refine e_iload 4 dX10_placeOf_106 rfl ?_
      refine e_imul dX10_placeOf_108 ?_
      refine e_iconst dX10_placeOf_109 (by unfold InR; decide) ?_
      refine e_iadd dX10_placeOf_110 ?_
      have o5 := h.1
      replace h := h.2
      refine e_iald dX10_placeOf_111 o3 o5 ?_
      refine e_aload_n 0 dX10_placeOf_112 rfl ?_
      refine e_getR dX10_placeOf_113 flX10_52 rfl o2 ?_
      refine e_iconst dX10_placeOf_116 (by unfold InR; decide) ?_
      refine e_iload 4 dX10_placeOf_117 rfl ?_
      refine e_imul dX10_placeOf_119 ?_
      refine e_iconst dX10_placeOf_120 (by unfold InR; decide) ?_
      refine e_iadd dX10_placeOf_121 ?_
      have o6 := h.1
      replace h := h.2
      refine e_iald dX10_placeOf_122 o3 o6 ?_
      refine e_iload_n 1 dX10_placeOf_123 rfl ?_
      refine e_iload_n 2 dX10_placeOf_124 rfl ?_
      refine e_iload_n 3 dX10_placeOf_125 rfl ?_
      have o7 := h.1
      replace h := h.2
      refine i_VI (μ' := MX10_compares) (ci := 9) (r := x0) (as := [vI (I (R x0 27) (Int.toNat (w32 (3 * x4)))), vI (I (R x0 27) (Int.toNat (w32 ((w32 (3 * x4)) + 1)))), vI (I (R x0 27) (Int.toNat (w32 ((w32 (3 * x4)) + 2)))), vI x1, vI x2, vI x3]) (st := []) rfl dX10_placeOf_126 mOKX10_compares ⟨mlX10_89, imX10_compares, seX10_compares⟩ (by decide) (Nat.le_of_ble_eq_true rfl) rfl (Nat.le_of_ble_eq_true rfl) ⟨by decide, rfl⟩ o2 (sX10_compares o7 ?_)
      refine e_if_eq (tgt := 134) dX10_placeOf_129 (by decide) (fun c => ?_) (fun c => ?_)
      · replace h := h.1 c
        refine e_iload 4 dX10_placeOf_134 rfl ?_
        exact e_ireturn dX10_placeOf_136 rfl ⟨_, rfl, h⟩
      · replace h := h.2 c
        refine e_iconst dX10_placeOf_132 (by unfold InR; decide) ?_
        exact e_ireturn dX10_placeOf_133 rfl ⟨_, rfl, h⟩
  · replace h := h.2 c
    refine e_iload 4 dX10_placeOf_16 rfl ?_
    refine e_iload 5 dX10_placeOf_18 rfl ?_
    refine e_iadd dX10_placeOf_20 ?_
    refine e_iconst dX10_placeOf_21 (by unfold InR; decide) ?_
    refine e_idiv dX10_placeOf_22 (by decide) ?_
    refine e_istore (ls2 := [(6, vI (idiv (w32 (x4 + x5)) 2)), (0, vR x0), (1, vI x1), (2, vI x2), (3, vI x3), (4, vI x4), (5, vI x5)]) dX10_placeOf_23 (by decide) rfl ?_
    refine e_aload_n 1 dX10_placeOf_25 rfl ?_
    refine e_aload_n 1 dX10_placeOf_26 rfl ?_
    have o8 := h.1
    replace h := h.2
    refine e_getR dX10_placeOf_27 flX10_52 rfl o8 ?_
    refine e_iconst dX10_placeOf_30 (by unfold InR; decide) ?_
    refine e_iload 0 dX10_placeOf_31 rfl ?_
    refine e_imul dX10_placeOf_33 ?_
    have o9 := h.1
    replace h := h.2
    have o10 := h.1
    replace h := h.2
    refine e_iald dX10_placeOf_34 o9 o10 ?_
    refine e_aload_n 1 dX10_placeOf_35 rfl ?_
    refine e_getR dX10_placeOf_36 flX10_52 rfl o8 ?_
    refine e_iconst dX10_placeOf_39 (by unfold InR; decide) ?_
    refine e_iload 0 dX10_placeOf_40 rfl ?_
    refine e_imul dX10_placeOf_42 ?_
    refine e_iconst dX10_placeOf_43 (by unfold InR; decide) ?_
    refine e_iadd dX10_placeOf_44 ?_
    have o11 := h.1
    replace h := h.2
    refine e_iald dX10_placeOf_45 o9 o11 ?_
    refine e_aload_n 1 dX10_placeOf_46 rfl ?_
    refine e_getR dX10_placeOf_47 flX10_52 rfl o8 ?_
    refine e_iconst dX10_placeOf_50 (by unfold InR; decide) ?_
    refine e_iload 0 dX10_placeOf_51 rfl ?_
    refine e_imul dX10_placeOf_53 ?_
    refine e_iconst dX10_placeOf_54 (by unfold InR; decide) ?_
    refine e_iadd dX10_placeOf_55 ?_
    have o12 := h.1
    replace h := h.2
    refine e_iald dX10_placeOf_56 o9 o12 ?_
    refine e_iload_n 2 dX10_placeOf_57 rfl ?_
    refine e_iload_n 3 dX10_placeOf_58 rfl ?_
    refine e_iload_n 4 dX10_placeOf_59 rfl ?_
    have o13 := h.1
    replace h := h.2
    refine i_VI (μ' := MX10_compares) (ci := 9) (r := x0) (as := [vI (I (R x0 27) (Int.toNat (w32 (3 * (idiv (w32 (x4 + x5)) 2))))), vI (I (R x0 27) (Int.toNat (w32 ((w32 (3 * (idiv (w32 (x4 + x5)) 2))) + 1)))), vI (I (R x0 27) (Int.toNat (w32 ((w32 (3 * (idiv (w32 (x4 + x5)) 2))) + 2)))), vI x1, vI x2, vI x3]) (st := []) rfl dX10_placeOf_60 mOKX10_compares ⟨mlX10_89, imX10_compares, seX10_compares⟩ (by decide) (Nat.le_of_ble_eq_true rfl) rfl (Nat.le_of_ble_eq_true rfl) ⟨by decide, rfl⟩ o8 (sX10_compares o13 ?_)
    refine e_if_ge (tgt := 75) dX10_placeOf_63 (by decide) (fun c => ?_) (fun c => ?_)
    · replace h := h.1 c
      refine e_iload 0 dX10_placeOf_75 rfl ?_
      refine e_istore (ls2 := [(5, vI (idiv (w32 (x4 + x5)) 2)), (6, vI (idiv (w32 (x4 + x5)) 2)), (0, vR x0), (1, vI x1), (2, vI x2), (3, vI x3), (4, vI x4)]) dX10_placeOf_77 (by decide) rfl ?_
      refine e_goto (tgt := 9) dX10_placeOf_79 (by decide) ?_
      exact e_sub (ls2 := [(0, vR x0), (1, vI x1), (2, vI x2), (3, vI x3), (4, vI x4), (5, vI (idiv (w32 (x4 + x5)) 2))]) [2, 3, 4, 5, 6, 0] rfl h
    · replace h := h.2 c
      refine e_iload 0 dX10_placeOf_66 rfl ?_
      refine e_iconst dX10_placeOf_68 (by unfold InR; decide) ?_
      refine e_iadd dX10_placeOf_69 ?_
      refine e_istore (ls2 := [(4, vI (w32 ((idiv (w32 (x4 + x5)) 2) + 1))), (6, vI (idiv (w32 (x4 + x5)) 2)), (0, vR x0), (1, vI x1), (2, vI x2), (3, vI x3), (5, vI x5)]) dX10_placeOf_70 (by decide) rfl ?_
      refine e_goto (tgt := 79) dX10_placeOf_72 (by decide) ?_
      refine e_goto (tgt := 9) dX10_placeOf_79 (by decide) ?_
      exact e_sub (ls2 := [(0, vR x0), (1, vI x1), (2, vI x2), (3, vI x3), (4, vI (w32 ((idiv (w32 (x4 + x5)) 2) + 1))), (5, vI x5)]) [2, 3, 4, 5, 0, 6] rfl h

def LX10_clearsRow_2 (G : Gl) (x0 : Nat) (x1 : Int) (S : Sh) (I : MI) (R : MR) (Q : Sh → MI → MR → Prop) : Prop := E G MX10_clearsRow 2 [(0, vR x0), (1, vI x1)] [] S I R (qV Q)
set_option maxRecDepth 100000 in
set_option maxHeartbeats 4000000 in
theorem bX10_clearsRow {G : Gl} {S : Sh} {I : MI} {R : MR} {Q : Sh → MI → MR → Prop} {x0 : Nat} (h : LX10_clearsRow_2 G x0 0 S I R Q) : CV G MX10_clearsRow [vR x0] S I R Q := by
  show E G MX10_clearsRow 0 [(0, vR x0)] [] S I R (qV Q)
  refine e_iconst dX10_clearsRow_0 (by unfold InR; decide) ?_
  refine e_istore_n (ls2 := [(1, vI 0), (0, vR x0)]) dX10_clearsRow_1 (by decide) rfl ?_
  exact e_sub (ls2 := [(0, vR x0), (1, vI 0)]) [1, 0] rfl h
set_option maxRecDepth 100000 in
set_option maxHeartbeats 4000000 in
theorem bX10_clearsRow_2 {G : Gl} {S : Sh} {I : MI} {R : MR} {Q : Sh → MI → MR → Prop} {x0 : Nat} {x1 : Int} (h : (sT S x0 = 10 ∧ (((I x0 28) ≤ x1 → Q S I R) ∧ (¬ ((I x0 28) ≤ x1) → (sT S (R x0 31) = 21 ∧ (((0 : Int) ≤ x1 ∧ x1 < (sL S (R x0 31) : Int)) ∧ (∀ I16, I16 = up2 I (R x0 31) (Int.toNat x1) 0 → LX10_clearsRow_2 G x0 (w32 (x1 + 1)) S I16 R Q))))))) : LX10_clearsRow_2 G x0 x1 S I R Q := by
  show E G MX10_clearsRow 2 [(0, vR x0), (1, vI x1)] [] S I R (qV Q)
  refine e_iload_n 1 dX10_clearsRow_2 rfl ?_
  refine e_aload_n 0 dX10_clearsRow_3 rfl ?_
  have o1 := h.1
  replace h := h.2
  refine e_getI dX10_clearsRow_4 flX10_283 rfl o1 ?_
  refine e_icmp_ge (tgt := 23) dX10_clearsRow_7 (by decide) (fun c => ?_) (fun c => ?_)
  · replace h := h.1 c
    exact e_return dX10_clearsRow_23 rfl ⟨rfl, h⟩
  · replace h := h.2 c
    refine e_aload_n 0 dX10_clearsRow_10 rfl ?_
    refine e_getR dX10_clearsRow_11 flX10_62 rfl o1 ?_
    refine e_iload_n 1 dX10_clearsRow_14 rfl ?_
    refine e_iconst dX10_clearsRow_15 (by unfold InR; decide) ?_
    have o2 := h.1
    replace h := h.2
    have o3 := h.1
    replace h := h.2
    obtain ⟨I16, eI16⟩ : ∃ z : MI, z = up2 I (R x0 31) (Int.toNat x1) 0 := ⟨_, rfl⟩
    replace h := h I16 eI16
    refine e_iast dX10_clearsRow_16 o2 o3 (eqI eI16 ?_)
    refine e_iinc (ls2 := [(1, vI (w32 (x1 + 1))), (0, vR x0)]) 1 dX10_clearsRow_17 rfl (by decide) rfl ?_
    refine e_goto (tgt := 2) dX10_clearsRow_20 (by decide) ?_
    exact e_sub (ls2 := [(0, vR x0), (1, vI (w32 (x1 + 1)))]) [1, 0] rfl h

def LX10_laysRow_7 (G : Gl) (x0 : Nat) (x1 : Int) (x2 : Int) (x3 : Int) (x4 : Int) (x5 : Int) (S : Sh) (I : MI) (R : MR) (Q : Sh → MI → MR → Prop) : Prop := E G MX10_laysRow 7 [(0, vR x0), (1, vI x1), (2, vI x2), (3, vI x3), (4, vI x4), (5, vI x5)] [] S I R (qV Q)
set_option maxRecDepth 100000 in
set_option maxHeartbeats 4000000 in
theorem bX10_laysRow {G : Gl} {S : Sh} {I : MI} {R : MR} {Q : Sh → MI → MR → Prop} {x0 : Nat} {x1 : Int} {x2 : Int} {x3 : Int} {x4 : Int} (h : (sT S x0 = 10 ∧ (CV G MX10_clearsRow [vR x0] S I R (fun S1 I1 R1 => LX10_laysRow_7 G x0 x1 x2 x3 x4 0 S1 I1 R1 Q)))) : CV G MX10_laysRow [vR x0, vI x1, vI x2, vI x3, vI x4] S I R Q := by
  show E G MX10_laysRow 0 [(0, vR x0), (1, vI x1), (2, vI x2), (3, vI x3), (4, vI x4)] [] S I R (qV Q)
  refine e_aload_n 0 dX10_laysRow_0 rfl ?_
  have o1 := h.1
  replace h := h.2
  refine i_VV (μ' := MX10_clearsRow) (ci := 9) (r := x0) (as := []) (st := []) rfl dX10_laysRow_1 mOKX10_clearsRow ⟨mlX10_286, imX10_clearsRow, seX10_clearsRow⟩ (by decide) (Nat.le_of_ble_eq_true rfl) rfl (Nat.le_of_ble_eq_true rfl) ⟨by decide, rfl⟩ o1 (CV.mono h ?_)
  clear h
  intro S1 I1 R1 h
  refine e_iconst dX10_laysRow_4 (by unfold InR; decide) ?_
  refine e_istore (ls2 := [(5, vI 0), (0, vR x0), (1, vI x1), (2, vI x2), (3, vI x3), (4, vI x4)]) dX10_laysRow_5 (by decide) rfl ?_
  exact e_sub (ls2 := [(0, vR x0), (1, vI x1), (2, vI x2), (3, vI x3), (4, vI x4), (5, vI 0)]) [1, 2, 3, 4, 5, 0] rfl h
set_option maxRecDepth 100000 in
set_option maxHeartbeats 4000000 in
theorem bX10_laysRow_7 {G : Gl} {S : Sh} {I : MI} {R : MR} {Q : Sh → MI → MR → Prop} {x0 : Nat} {x1 : Int} {x2 : Int} {x3 : Int} {x4 : Int} {x5 : Int} (h : (sT S x0 = 10 ∧ (sT S (R x0 4) = 21 ∧ (((0 : Int) ≤ x1 ∧ x1 < (sL S (R x0 4) : Int)) ∧ (((I (R x0 4) (Int.toNat x1)) ≤ x5 → Q S I R) ∧ (¬ ((I (R x0 4) (Int.toNat x1)) ≤ x5) → ((pX10_power S R x0 x1 x5 0) ∧ ((pX10_power S R x0 x1 x5 1) ∧ ((pX10_power S R x0 x1 x5 2) ∧ (CI G MX10_placeOf [vR x0, vI (w32 ((vX10_power I R x0 x1 x5 0) + x2)), vI (w32 ((vX10_power I R x0 x1 x5 1) + x3)), vI (w32 ((vX10_power I R x0 x1 x5 2) + x4))] S I R (fun S50 I50 R50 x50_ => ((x50_ = (-1) → LX10_laysRow_7 G x0 x1 x2 x3 x4 (w32 (x5 + 1)) S50 I50 R50 Q) ∧ (¬ (x50_ = (-1)) → (sT S50 x0 = 10 ∧ (sT S50 (R50 x0 5) = 21 ∧ (((0 : Int) ≤ (vX10_at x0 x1 x5) ∧ (vX10_at x0 x1 x5) < (sL S50 (R50 x0 5) : Int)) ∧ (sT S50 (R50 x0 31) = 21 ∧ (((0 : Int) ≤ x50_ ∧ x50_ < (sL S50 (R50 x0 31) : Int)) ∧ (∀ I79, I79 = up2 I50 (R50 x0 31) (Int.toNat x50_) (I50 (R50 x0 5) (Int.toNat (vX10_at x0 x1 x5))) → LX10_laysRow_7 G x0 x1 x2 x3 x4 (w32 (x5 + 1)) S50 I79 R50 Q))))))))))))))))))) : LX10_laysRow_7 G x0 x1 x2 x3 x4 x5 S I R Q := by
  show E G MX10_laysRow 7 [(0, vR x0), (1, vI x1), (2, vI x2), (3, vI x3), (4, vI x4), (5, vI x5)] [] S I R (qV Q)
  refine e_iload 5 dX10_laysRow_7 rfl ?_
  refine e_aload_n 0 dX10_laysRow_9 rfl ?_
  have o2 := h.1
  replace h := h.2
  refine e_getR dX10_laysRow_10 flX10_20 rfl o2 ?_
  refine e_iload_n 1 dX10_laysRow_13 rfl ?_
  have o3 := h.1
  replace h := h.2
  have o4 := h.1
  replace h := h.2
  refine e_iald dX10_laysRow_14 o3 o4 ?_
  refine e_icmp_ge (tgt := 86) dX10_laysRow_15 (by decide) (fun c => ?_) (fun c => ?_)
  · replace h := h.1 c
    exact e_return dX10_laysRow_86 rfl ⟨rfl, h⟩
  · replace h := h.2 c
    refine e_aload_n 0 dX10_laysRow_18 rfl ?_
    refine e_aload_n 0 dX10_laysRow_19 rfl ?_
    refine e_iload_n 1 dX10_laysRow_20 rfl ?_
    refine e_iload 5 dX10_laysRow_21 rfl ?_
    refine e_iconst dX10_laysRow_23 (by unfold InR; decide) ?_
    have o5 := h.1
    replace h := h.2
    refine i_VI (μ' := MX10_power) (ci := 9) (r := x0) (as := [vI x1, vI x5, vI 0]) (st := [vR x0]) rfl dX10_laysRow_24 mOKX10_power ⟨mlX10_72, imX10_power, seX10_power⟩ (by decide) (Nat.le_of_ble_eq_true rfl) rfl (Nat.le_of_ble_eq_true rfl) ⟨by decide, rfl⟩ o2 (sX10_power o5 ?_)
    refine e_iload_n 2 dX10_laysRow_27 rfl ?_
    refine e_iadd dX10_laysRow_28 ?_
    refine e_aload_n 0 dX10_laysRow_29 rfl ?_
    refine e_iload_n 1 dX10_laysRow_30 rfl ?_
    refine e_iload 5 dX10_laysRow_31 rfl ?_
    refine e_iconst dX10_laysRow_33 (by unfold InR; decide) ?_
    have o6 := h.1
    replace h := h.2
    refine i_VI (μ' := MX10_power) (ci := 9) (r := x0) (as := [vI x1, vI x5, vI 1]) (st := [vI (w32 ((vX10_power I R x0 x1 x5 0) + x2)), vR x0]) rfl dX10_laysRow_34 mOKX10_power ⟨mlX10_72, imX10_power, seX10_power⟩ (by decide) (Nat.le_of_ble_eq_true rfl) rfl (Nat.le_of_ble_eq_true rfl) ⟨by decide, rfl⟩ o2 (sX10_power o6 ?_)
    refine e_iload_n 3 dX10_laysRow_37 rfl ?_
    refine e_iadd dX10_laysRow_38 ?_
    refine e_aload_n 0 dX10_laysRow_39 rfl ?_
    refine e_iload_n 1 dX10_laysRow_40 rfl ?_
    refine e_iload 5 dX10_laysRow_41 rfl ?_
    refine e_iconst dX10_laysRow_43 (by unfold InR; decide) ?_
    have o7 := h.1
    replace h := h.2
    refine i_VI (μ' := MX10_power) (ci := 9) (r := x0) (as := [vI x1, vI x5, vI 2]) (st := [vI (w32 ((vX10_power I R x0 x1 x5 1) + x3)), vI (w32 ((vX10_power I R x0 x1 x5 0) + x2)), vR x0]) rfl dX10_laysRow_44 mOKX10_power ⟨mlX10_72, imX10_power, seX10_power⟩ (by decide) (Nat.le_of_ble_eq_true rfl) rfl (Nat.le_of_ble_eq_true rfl) ⟨by decide, rfl⟩ o2 (sX10_power o7 ?_)
    refine e_iload 4 dX10_laysRow_47 rfl ?_
    refine e_iadd dX10_laysRow_49 ?_
    refine i_VI (μ' := MX10_placeOf) (ci := 9) (r := x0) (as := [vI (w32 ((vX10_power I R x0 x1 x5 0) + x2)), vI (w32 ((vX10_power I R x0 x1 x5 1) + x3)), vI (w32 ((vX10_power I R x0 x1 x5 2) + x4))]) (st := []) rfl dX10_laysRow_50 mOKX10_placeOf ⟨mlX10_289, imX10_placeOf, seX10_placeOf⟩ (by decide) (Nat.le_of_ble_eq_true rfl) rfl (Nat.le_of_ble_eq_true rfl) ⟨by decide, rfl⟩ o2 (CI.mono h ?_)
    clear h
    intro S50 I50 R50 x50_ h
    refine e_istore (ls2 := [(6, vI x50_), (0, vR x0), (1, vI x1), (2, vI x2), (3, vI x3), (4, vI x4), (5, vI x5)]) dX10_laysRow_53 (by decide) rfl ?_
    refine e_iload 0 dX10_laysRow_55 rfl ?_
    refine e_iconst dX10_laysRow_57 (by unfold InR; decide) ?_
    refine e_icmp_eq (tgt := 80) dX10_laysRow_58 (by decide) (fun c => ?_) (fun c => ?_)
    · replace h := h.1 c
      refine e_iinc (ls2 := [(5, vI (w32 (x5 + 1))), (6, vI x50_), (0, vR x0), (1, vI x1), (2, vI x2), (3, vI x3), (4, vI x4)]) 6 dX10_laysRow_80 rfl (by decide) rfl ?_
      refine e_goto (tgt := 7) dX10_laysRow_83 (by decide) ?_
      exact e_sub (ls2 := [(0, vR x0), (1, vI x1), (2, vI x2), (3, vI x3), (4, vI x4), (5, vI (w32 (x5 + 1)))]) [2, 3, 4, 5, 6, 0] rfl h
    · replace h := h.2 c
      refine e_aload_n 1 dX10_laysRow_61 rfl ?_
      have o8 := h.1
      replace h := h.2
      refine e_getR dX10_laysRow_62 flX10_62 rfl o8 ?_
      refine e_iload 0 dX10_laysRow_65 rfl ?_
      refine e_aload_n 1 dX10_laysRow_67 rfl ?_
      refine e_getR dX10_laysRow_68 flX10_23 rfl o8 ?_
      refine e_aload_n 1 dX10_laysRow_71 rfl ?_
      refine e_iload_n 2 dX10_laysRow_72 rfl ?_
      refine e_iload 6 dX10_laysRow_73 rfl ?_
      refine i_VI (μ' := MX10_at) (ci := 9) (r := x0) (as := [vI x1, vI x5]) (st := [vR (R50 x0 5), vI x50_, vR (R50 x0 31)]) rfl dX10_laysRow_75 mOKX10_at ⟨mlX10_68, imX10_at, seX10_at⟩ (by decide) (Nat.le_of_ble_eq_true rfl) rfl (Nat.le_of_ble_eq_true rfl) ⟨by decide, rfl⟩ o8 (sX10_at ?_)
      have o9 := h.1
      replace h := h.2
      have o10 := h.1
      replace h := h.2
      refine e_iald dX10_laysRow_78 o9 o10 ?_
      have o11 := h.1
      replace h := h.2
      have o12 := h.1
      replace h := h.2
      obtain ⟨I79, eI79⟩ : ∃ z : MI, z = up2 I50 (R50 x0 31) (Int.toNat x50_) (I50 (R50 x0 5) (Int.toNat (vX10_at x0 x1 x5))) := ⟨_, rfl⟩
      replace h := h I79 eI79
      refine e_iast dX10_laysRow_79 o11 o12 (eqI eI79 ?_)
      refine e_iinc (ls2 := [(5, vI (w32 (x5 + 1))), (6, vI x50_), (0, vR x0), (1, vI x1), (2, vI x2), (3, vI x3), (4, vI x4)]) 6 dX10_laysRow_80 rfl (by decide) rfl ?_
      refine e_goto (tgt := 7) dX10_laysRow_83 (by decide) ?_
      exact e_sub (ls2 := [(0, vR x0), (1, vI x1), (2, vI x2), (3, vI x3), (4, vI x4), (5, vI (w32 (x5 + 1)))]) [2, 3, 4, 5, 6, 0] rfl h

def LX10_reduces_2 (G : Gl) (x0 : Nat) (x1 : Int) (S : Sh) (I : MI) (R : MR) (Q : Sh → MI → MR → Prop) : Prop := E G MX10_reduces 2 [(0, vR x0), (1, vI x1)] [] S I R (qV Q)
def LX10_reduces_47 (G : Gl) (x0 : Nat) (x1 : Int) (x2 : Int) (x4 : Int) (S : Sh) (I : MI) (R : MR) (Q : Sh → MI → MR → Prop) : Prop := E G MX10_reduces 47 [(0, vR x0), (1, vI x1), (2, vL x2), (4, vI x4)] [] S I R (qV Q)
set_option maxRecDepth 100000 in
set_option maxHeartbeats 4000000 in
theorem bX10_reduces {G : Gl} {S : Sh} {I : MI} {R : MR} {Q : Sh → MI → MR → Prop} {x0 : Nat} (h : LX10_reduces_2 G x0 0 S I R Q) : CV G MX10_reduces [vR x0] S I R Q := by
  show E G MX10_reduces 0 [(0, vR x0)] [] S I R (qV Q)
  refine e_iconst dX10_reduces_0 (by unfold InR; decide) ?_
  refine e_istore_n (ls2 := [(1, vI 0), (0, vR x0)]) dX10_reduces_1 (by decide) rfl ?_
  exact e_sub (ls2 := [(0, vR x0), (1, vI 0)]) [1, 0] rfl h
set_option maxRecDepth 100000 in
set_option maxHeartbeats 4000000 in
theorem bX10_reduces_2 {G : Gl} {S : Sh} {I : MI} {R : MR} {Q : Sh → MI → MR → Prop} {x0 : Nat} {x1 : Int} (h : (sT S x0 = 10 ∧ (((I x0 28) ≤ x1 → Q S I R) ∧ (¬ ((I x0 28) ≤ x1) → (sT S (R x0 31) = 21 ∧ (((0 : Int) ≤ x1 ∧ x1 < (sL S (R x0 31) : Int)) ∧ (((I (R x0 31) (Int.toNat x1)) = 0 → LX10_reduces_2 G x0 (w32 (x1 + 1)) S I R Q) ∧ (¬ ((I (R x0 31) (Int.toNat x1)) = 0) → (sT S (R x0 30) = 23 ∧ (((0 : Int) ≤ x1 ∧ x1 < (sL S (R x0 30) : Int)) ∧ (((I (R x0 30) (Int.toNat x1)) ≠ 0 → LX10_reduces_47 G x0 x1 (w32 ((I x0 2) - (I (R x0 31) (Int.toNat x1)))) x1 S I R Q) ∧ (¬ ((I (R x0 30) (Int.toNat x1)) ≠ 0) → LX10_reduces_2 G x0 (w32 (x1 + 1)) S I R Q)))))))))))) : LX10_reduces_2 G x0 x1 S I R Q := by
  show E G MX10_reduces 2 [(0, vR x0), (1, vI x1)] [] S I R (qV Q)
  refine e_iload_n 1 dX10_reduces_2 rfl ?_
  refine e_aload_n 0 dX10_reduces_3 rfl ?_
  have o1 := h.1
  replace h := h.2
  refine e_getI dX10_reduces_4 flX10_283 rfl o1 ?_
  refine e_icmp_ge (tgt := 106) dX10_reduces_7 (by decide) (fun c => ?_) (fun c => ?_)
  · replace h := h.1 c
    exact e_return dX10_reduces_106 rfl ⟨rfl, h⟩
  · replace h := h.2 c
    refine e_aload_n 0 dX10_reduces_10 rfl ?_
    refine e_getR dX10_reduces_11 flX10_62 rfl o1 ?_
    refine e_iload_n 1 dX10_reduces_14 rfl ?_
    have o2 := h.1
    replace h := h.2
    have o3 := h.1
    replace h := h.2
    refine e_iald dX10_reduces_15 o2 o3 ?_
    refine e_if_eq (tgt := 100) dX10_reduces_16 (by decide) (fun c => ?_) (fun c => ?_)
    · replace h := h.1 c
      refine e_iinc (ls2 := [(1, vI (w32 (x1 + 1))), (0, vR x0)]) 1 dX10_reduces_100 rfl (by decide) rfl ?_
      refine e_goto (tgt := 2) dX10_reduces_103 (by decide) ?_
      exact e_sub (ls2 := [(0, vR x0), (1, vI (w32 (x1 + 1)))]) [1, 0] rfl h
    · replace h := h.2 c
      refine e_aload_n 0 dX10_reduces_19 rfl ?_
      refine e_getR dX10_reduces_20 flX10_58 rfl o1 ?_
      refine e_iload_n 1 dX10_reduces_23 rfl ?_
      have o4 := h.1
      replace h := h.2
      have o5 := h.1
      replace h := h.2
      refine e_zald dX10_reduces_24 o4 o5 ?_
      refine e_if_ne (tgt := 31) dX10_reduces_25 (by decide) (fun c => ?_) (fun c => ?_)
      · replace h := h.1 c
        refine e_aload_n 0 dX10_reduces_31 rfl ?_
        refine e_getI dX10_reduces_32 flX10_13 rfl o1 ?_
        refine e_aload_n 0 dX10_reduces_35 rfl ?_
        refine e_getR dX10_reduces_36 flX10_62 rfl o1 ?_
        refine e_iload_n 1 dX10_reduces_39 rfl ?_
        refine e_iald dX10_reduces_40 o2 o3 ?_
        refine e_isub dX10_reduces_41 ?_
        refine e_i2l dX10_reduces_42 ?_
        refine e_lstore_n (ls2 := [(2, vL (w32 ((I x0 2) - (I (R x0 31) (Int.toNat x1))))), (0, vR x0), (1, vI x1)]) dX10_reduces_43 (by decide) rfl ?_
        refine e_iload_n 2 dX10_reduces_44 rfl ?_
        refine e_istore (ls2 := [(4, vI x1), (2, vL (w32 ((I x0 2) - (I (R x0 31) (Int.toNat x1))))), (0, vR x0), (1, vI x1)]) dX10_reduces_45 (by decide) rfl ?_
        exact e_sub (ls2 := [(0, vR x0), (1, vI x1), (2, vL (w32 ((I x0 2) - (I (R x0 31) (Int.toNat x1))))), (4, vI x1)]) [2, 3, 1, 0] rfl h
      · replace h := h.2 c
        refine e_goto (tgt := 100) dX10_reduces_28 (by decide) ?_
        refine e_iinc (ls2 := [(1, vI (w32 (x1 + 1))), (0, vR x0)]) 1 dX10_reduces_100 rfl (by decide) rfl ?_
        refine e_goto (tgt := 2) dX10_reduces_103 (by decide) ?_
        exact e_sub (ls2 := [(0, vR x0), (1, vI (w32 (x1 + 1)))]) [1, 0] rfl h
set_option maxRecDepth 100000 in
set_option maxHeartbeats 4000000 in
theorem bX10_reduces_47 {G : Gl} {S : Sh} {I : MI} {R : MR} {Q : Sh → MI → MR → Prop} {x0 : Nat} {x1 : Int} {x2 : Int} {x4 : Int} (h : (sT S x0 = 10 ∧ (((I x0 28) ≤ x4 → LX10_reduces_2 G x0 (w32 (x1 + 1)) S I R Q) ∧ (¬ ((I x0 28) ≤ x4) → (sT S (R x0 31) = 21 ∧ (((0 : Int) ≤ x4 ∧ x4 < (sL S (R x0 31) : Int)) ∧ (sT S (R x0 29) = 21 ∧ (((0 : Int) ≤ (w32 ((w32 (120 * x1)) + x4)) ∧ (w32 ((w32 (120 * x1)) + x4)) < (sL S (R x0 29) : Int)) ∧ ((I x0 2) ≠ 0 ∧ (∀ I93, I93 = up2 I (R x0 31) (Int.toNat x4) (w32 (lrem (w64 ((I (R x0 31) (Int.toNat x4)) + (w64 (x2 * (I (R x0 29) (Int.toNat (w32 ((w32 (120 * x1)) + x4)))))))) (I x0 2))) → LX10_reduces_47 G x0 x1 x2 (w32 (x4 + 1)) S I93 R Q)))))))))) : LX10_reduces_47 G x0 x1 x2 x4 S I R Q := by
  show E G MX10_reduces 47 [(0, vR x0), (1, vI x1), (2, vL x2), (4, vI x4)] [] S I R (qV Q)
  refine e_iload 3 dX10_reduces_47 rfl ?_
  refine e_aload_n 0 dX10_reduces_49 rfl ?_
  have o6 := h.1
  replace h := h.2
  refine e_getI dX10_reduces_50 flX10_283 rfl o6 ?_
  refine e_icmp_ge (tgt := 100) dX10_reduces_53 (by decide) (fun c => ?_) (fun c => ?_)
  · replace h := h.1 c
    refine e_iinc (ls2 := [(1, vI (w32 (x1 + 1))), (0, vR x0), (2, vL x2), (4, vI x4)]) 1 dX10_reduces_100 rfl (by decide) rfl ?_
    refine e_goto (tgt := 2) dX10_reduces_103 (by decide) ?_
    exact e_sub (ls2 := [(0, vR x0), (1, vI (w32 (x1 + 1)))]) [1, 0] rfl h
  · replace h := h.2 c
    refine e_aload_n 0 dX10_reduces_56 rfl ?_
    refine e_getR dX10_reduces_57 flX10_62 rfl o6 ?_
    refine e_iload 3 dX10_reduces_60 rfl ?_
    refine e_aload_n 0 dX10_reduces_62 rfl ?_
    refine e_getR dX10_reduces_63 flX10_62 rfl o6 ?_
    refine e_iload 3 dX10_reduces_66 rfl ?_
    have o7 := h.1
    replace h := h.2
    have o8 := h.1
    replace h := h.2
    refine e_iald dX10_reduces_68 o7 o8 ?_
    refine e_i2l dX10_reduces_69 ?_
    refine e_lload_n 2 dX10_reduces_70 rfl ?_
    refine e_aload_n 0 dX10_reduces_71 rfl ?_
    refine e_getR dX10_reduces_72 flX10_55 rfl o6 ?_
    refine e_bipush (x := 120) dX10_reduces_75 ⟨by decide +kernel, by unfold InR; decide⟩ ?_
    refine e_iload_n 1 dX10_reduces_77 rfl ?_
    refine e_imul dX10_reduces_78 ?_
    refine e_iload 3 dX10_reduces_79 rfl ?_
    refine e_iadd dX10_reduces_81 ?_
    have o9 := h.1
    replace h := h.2
    have o10 := h.1
    replace h := h.2
    refine e_iald dX10_reduces_82 o9 o10 ?_
    refine e_i2l dX10_reduces_83 ?_
    refine e_lmul dX10_reduces_84 ?_
    refine e_ladd dX10_reduces_85 ?_
    refine e_aload_n 0 dX10_reduces_86 rfl ?_
    refine e_getI dX10_reduces_87 flX10_13 rfl o6 ?_
    refine e_i2l dX10_reduces_90 ?_
    have o11 := h.1
    replace h := h.2
    refine e_lrem dX10_reduces_91 o11 ?_
    refine e_l2i dX10_reduces_92 ?_
    obtain ⟨I93, eI93⟩ : ∃ z : MI, z = up2 I (R x0 31) (Int.toNat x4) (w32 (lrem (w64 ((I (R x0 31) (Int.toNat x4)) + (w64 (x2 * (I (R x0 29) (Int.toNat (w32 ((w32 (120 * x1)) + x4)))))))) (I x0 2))) := ⟨_, rfl⟩
    replace h := h I93 eI93
    refine e_iast dX10_reduces_93 o7 o8 (eqI eI93 ?_)
    refine e_iinc (ls2 := [(4, vI (w32 (x4 + 1))), (0, vR x0), (1, vI x1), (2, vL x2)]) 3 dX10_reduces_94 rfl (by decide) rfl ?_
    refine e_goto (tgt := 47) dX10_reduces_97 (by decide) ?_
    exact e_sub (ls2 := [(0, vR x0), (1, vI x1), (2, vL x2), (4, vI (w32 (x4 + 1)))]) [1, 2, 3, 0] rfl h

def LX10_addsRow_6 (G : Gl) (x0 : Nat) (x1 : Int) (S : Sh) (I : MI) (R : MR) (Q : Sh → MI → MR → Prop) : Prop := E G MX10_addsRow 6 [(0, vR x0), (1, vI x1)] [] S I R (qV Q)
def LX10_addsRow_30 (G : Gl) (x0 : Nat) (x1 : Int) (S : Sh) (I : MI) (R : MR) (Q : Sh → MI → MR → Prop) : Prop := E G MX10_addsRow 30 [(0, vR x0), (1, vI x1)] [] S I R (qV Q)
def LX10_addsRow_54 (G : Gl) (x0 : Nat) (x1 : Int) (x2 : Int) (x4 : Int) (S : Sh) (I : MI) (R : MR) (Q : Sh → MI → MR → Prop) : Prop := E G MX10_addsRow 54 [(0, vR x0), (1, vI x1), (2, vL x2), (4, vI x4)] [] S I R (qV Q)
set_option maxRecDepth 100000 in
set_option maxHeartbeats 4000000 in
theorem bX10_addsRow {G : Gl} {S : Sh} {I : MI} {R : MR} {Q : Sh → MI → MR → Prop} {x0 : Nat} (h : (sT S x0 = 10 ∧ (CV G MX10_reduces [vR x0] S I R (fun S1 I1 R1 => LX10_addsRow_6 G x0 0 S1 I1 R1 Q)))) : CV G MX10_addsRow [vR x0] S I R Q := by
  show E G MX10_addsRow 0 [(0, vR x0)] [] S I R (qV Q)
  refine e_aload_n 0 dX10_addsRow_0 rfl ?_
  have o1 := h.1
  replace h := h.2
  refine i_VV (μ' := MX10_reduces) (ci := 9) (r := x0) (as := []) (st := []) rfl dX10_addsRow_1 mOKX10_reduces ⟨mlX10_292, imX10_reduces, seX10_reduces⟩ (by decide) (Nat.le_of_ble_eq_true rfl) rfl (Nat.le_of_ble_eq_true rfl) ⟨by decide, rfl⟩ o1 (CV.mono h ?_)
  clear h
  intro S1 I1 R1 h
  refine e_iconst dX10_addsRow_4 (by unfold InR; decide) ?_
  refine e_istore_n (ls2 := [(1, vI 0), (0, vR x0)]) dX10_addsRow_5 (by decide) rfl ?_
  exact e_sub (ls2 := [(0, vR x0), (1, vI 0)]) [1, 0] rfl h
set_option maxRecDepth 100000 in
set_option maxHeartbeats 4000000 in
theorem bX10_addsRow_6 {G : Gl} {S : Sh} {I : MI} {R : MR} {Q : Sh → MI → MR → Prop} {x0 : Nat} {x1 : Int} (h : (sT S x0 = 10 ∧ (((I x0 28) ≤ x1 → LX10_addsRow_30 G x0 x1 S I R Q) ∧ (¬ ((I x0 28) ≤ x1) → (sT S (R x0 31) = 21 ∧ (((0 : Int) ≤ x1 ∧ x1 < (sL S (R x0 31) : Int)) ∧ (((I (R x0 31) (Int.toNat x1)) ≠ 0 → LX10_addsRow_30 G x0 x1 S I R Q) ∧ (¬ ((I (R x0 31) (Int.toNat x1)) ≠ 0) → LX10_addsRow_6 G x0 (w32 (x1 + 1)) S I R Q)))))))) : LX10_addsRow_6 G x0 x1 S I R Q := by
  show E G MX10_addsRow 6 [(0, vR x0), (1, vI x1)] [] S I R (qV Q)
  refine e_iload_n 1 dX10_addsRow_6 rfl ?_
  refine e_aload_n 0 dX10_addsRow_7 rfl ?_
  have o2 := h.1
  replace h := h.2
  refine e_getI dX10_addsRow_8 flX10_283 rfl o2 ?_
  refine e_icmp_ge (tgt := 30) dX10_addsRow_11 (by decide) (fun c => ?_) (fun c => ?_)
  · replace h := h.1 c
    exact e_sub (ls2 := [(0, vR x0), (1, vI x1)]) [0, 1] rfl h
  · replace h := h.2 c
    refine e_aload_n 0 dX10_addsRow_14 rfl ?_
    refine e_getR dX10_addsRow_15 flX10_62 rfl o2 ?_
    refine e_iload_n 1 dX10_addsRow_18 rfl ?_
    have o3 := h.1
    replace h := h.2
    have o4 := h.1
    replace h := h.2
    refine e_iald dX10_addsRow_19 o3 o4 ?_
    refine e_if_ne (tgt := 30) dX10_addsRow_20 (by decide) (fun c => ?_) (fun c => ?_)
    · replace h := h.1 c
      exact e_sub (ls2 := [(0, vR x0), (1, vI x1)]) [0, 1] rfl h
    · replace h := h.2 c
      refine e_iload_n 1 dX10_addsRow_23 rfl ?_
      refine e_iconst dX10_addsRow_24 (by unfold InR; decide) ?_
      refine e_iadd dX10_addsRow_25 ?_
      refine e_istore_n (ls2 := [(1, vI (w32 (x1 + 1))), (0, vR x0)]) dX10_addsRow_26 (by decide) rfl ?_
      refine e_goto (tgt := 6) dX10_addsRow_27 (by decide) ?_
      exact e_sub (ls2 := [(0, vR x0), (1, vI (w32 (x1 + 1)))]) [1, 0] rfl h
set_option maxRecDepth 100000 in
set_option maxHeartbeats 4000000 in
theorem bX10_addsRow_30 {G : Gl} {S : Sh} {I : MI} {R : MR} {Q : Sh → MI → MR → Prop} {x0 : Nat} {x1 : Int} (h : (sT S x0 = 10 ∧ ((x1 ≠ (I x0 28) → (sT S (R x0 31) = 21 ∧ (((0 : Int) ≤ x1 ∧ x1 < (sL S (R x0 31) : Int)) ∧ (CI G MX10_turned [vR x0, vI (I (R x0 31) (Int.toNat x1))] S I R (fun S46 I46 R46 x46_ => LX10_addsRow_54 G x0 x1 x46_ 0 S46 I46 R46 Q))))) ∧ (¬ (x1 ≠ (I x0 28)) → Q S I R)))) : LX10_addsRow_30 G x0 x1 S I R Q := by
  show E G MX10_addsRow 30 [(0, vR x0), (1, vI x1)] [] S I R (qV Q)
  refine e_iload_n 1 dX10_addsRow_30 rfl ?_
  refine e_aload_n 0 dX10_addsRow_31 rfl ?_
  have o5 := h.1
  replace h := h.2
  refine e_getI dX10_addsRow_32 flX10_283 rfl o5 ?_
  refine e_icmp_ne (tgt := 39) dX10_addsRow_35 (by decide) (fun c => ?_) (fun c => ?_)
  · replace h := h.1 c
    refine e_aload_n 0 dX10_addsRow_39 rfl ?_
    refine e_aload_n 0 dX10_addsRow_40 rfl ?_
    refine e_getR dX10_addsRow_41 flX10_62 rfl o5 ?_
    refine e_iload_n 1 dX10_addsRow_44 rfl ?_
    have o6 := h.1
    replace h := h.2
    have o7 := h.1
    replace h := h.2
    refine e_iald dX10_addsRow_45 o6 o7 ?_
    refine i_VI (μ' := MX10_turned) (ci := 9) (r := x0) (as := [vI (I (R x0 31) (Int.toNat x1))]) (st := []) rfl dX10_addsRow_46 mOKX10_turned ⟨mlX10_244, imX10_turned, seX10_turned⟩ (by decide) (Nat.le_of_ble_eq_true rfl) rfl (Nat.le_of_ble_eq_true rfl) ⟨by decide, rfl⟩ o5 (CI.mono h ?_)
    clear h
    intro S46 I46 R46 x46_ h
    refine e_i2l dX10_addsRow_49 ?_
    refine e_lstore_n (ls2 := [(2, vL x46_), (0, vR x0), (1, vI x1)]) dX10_addsRow_50 (by decide) rfl ?_
    refine e_iconst dX10_addsRow_51 (by unfold InR; decide) ?_
    refine e_istore (ls2 := [(4, vI 0), (2, vL x46_), (0, vR x0), (1, vI x1)]) dX10_addsRow_52 (by decide) rfl ?_
    exact e_sub (ls2 := [(0, vR x0), (1, vI x1), (2, vL x46_), (4, vI 0)]) [2, 3, 1, 0] rfl h
  · replace h := h.2 c
    exact e_return dX10_addsRow_38 rfl ⟨rfl, h⟩
set_option maxRecDepth 100000 in
set_option maxHeartbeats 4000000 in
theorem bX10_addsRow_54 {G : Gl} {S : Sh} {I : MI} {R : MR} {Q : Sh → MI → MR → Prop} {x0 : Nat} {x1 : Int} {x2 : Int} {x4 : Int} (h : (sT S x0 = 10 ∧ (((I x0 28) ≤ x4 → (sT S (R x0 30) = 23 ∧ (((0 : Int) ≤ x1 ∧ x1 < (sL S (R x0 30) : Int)) ∧ (∀ I104, I104 = up2 I (R x0 30) (Int.toNat x1) 1 → Q S I104 R)))) ∧ (¬ ((I x0 28) ≤ x4) → (sT S (R x0 31) = 21 ∧ (((0 : Int) ≤ x4 ∧ x4 < (sL S (R x0 31) : Int)) ∧ ((I x0 2) ≠ 0 ∧ (sT S (R x0 29) = 21 ∧ (((0 : Int) ≤ (w32 ((w32 (120 * x1)) + x4)) ∧ (w32 ((w32 (120 * x1)) + x4)) < (sL S (R x0 29) : Int)) ∧ (∀ I91, I91 = up2 I (R x0 29) (Int.toNat (w32 ((w32 (120 * x1)) + x4))) (w32 (lrem (w64 ((I (R x0 31) (Int.toNat x4)) * x2)) (I x0 2))) → LX10_addsRow_54 G x0 x1 x2 (w32 (x4 + 1)) S I91 R Q)))))))))) : LX10_addsRow_54 G x0 x1 x2 x4 S I R Q := by
  show E G MX10_addsRow 54 [(0, vR x0), (1, vI x1), (2, vL x2), (4, vI x4)] [] S I R (qV Q)
  refine e_iload 3 dX10_addsRow_54 rfl ?_
  refine e_aload_n 0 dX10_addsRow_56 rfl ?_
  have o8 := h.1
  replace h := h.2
  refine e_getI dX10_addsRow_57 flX10_283 rfl o8 ?_
  refine e_icmp_ge (tgt := 98) dX10_addsRow_60 (by decide) (fun c => ?_) (fun c => ?_)
  · replace h := h.1 c
    refine e_aload_n 0 dX10_addsRow_98 rfl ?_
    refine e_getR dX10_addsRow_99 flX10_58 rfl o8 ?_
    refine e_iload_n 1 dX10_addsRow_102 rfl ?_
    refine e_iconst dX10_addsRow_103 (by unfold InR; decide) ?_
    have o9 := h.1
    replace h := h.2
    have o10 := h.1
    replace h := h.2
    obtain ⟨I104, eI104⟩ : ∃ z : MI, z = up2 I (R x0 30) (Int.toNat x1) 1 := ⟨_, rfl⟩
    replace h := h I104 eI104
    refine e_zast dX10_addsRow_104 o9 o10 (by decide) (eqI eI104 ?_)
    exact e_return dX10_addsRow_105 rfl ⟨rfl, h⟩
  · replace h := h.2 c
    refine e_aload_n 0 dX10_addsRow_63 rfl ?_
    refine e_getR dX10_addsRow_64 flX10_55 rfl o8 ?_
    refine e_bipush (x := 120) dX10_addsRow_67 ⟨by decide +kernel, by unfold InR; decide⟩ ?_
    refine e_iload_n 1 dX10_addsRow_69 rfl ?_
    refine e_imul dX10_addsRow_70 ?_
    refine e_iload 3 dX10_addsRow_71 rfl ?_
    refine e_iadd dX10_addsRow_73 ?_
    refine e_aload_n 0 dX10_addsRow_74 rfl ?_
    refine e_getR dX10_addsRow_75 flX10_62 rfl o8 ?_
    refine e_iload 3 dX10_addsRow_78 rfl ?_
    have o11 := h.1
    replace h := h.2
    have o12 := h.1
    replace h := h.2
    refine e_iald dX10_addsRow_80 o11 o12 ?_
    refine e_i2l dX10_addsRow_81 ?_
    refine e_lload_n 2 dX10_addsRow_82 rfl ?_
    refine e_lmul dX10_addsRow_83 ?_
    refine e_aload_n 0 dX10_addsRow_84 rfl ?_
    refine e_getI dX10_addsRow_85 flX10_13 rfl o8 ?_
    refine e_i2l dX10_addsRow_88 ?_
    have o13 := h.1
    replace h := h.2
    refine e_lrem dX10_addsRow_89 o13 ?_
    refine e_l2i dX10_addsRow_90 ?_
    have o14 := h.1
    replace h := h.2
    have o15 := h.1
    replace h := h.2
    obtain ⟨I91, eI91⟩ : ∃ z : MI, z = up2 I (R x0 29) (Int.toNat (w32 ((w32 (120 * x1)) + x4))) (w32 (lrem (w64 ((I (R x0 31) (Int.toNat x4)) * x2)) (I x0 2))) := ⟨_, rfl⟩
    replace h := h I91 eI91
    refine e_iast dX10_addsRow_91 o14 o15 (eqI eI91 ?_)
    refine e_iinc (ls2 := [(4, vI (w32 (x4 + 1))), (0, vR x0), (1, vI x1), (2, vL x2)]) 3 dX10_addsRow_92 rfl (by decide) rfl ?_
    refine e_goto (tgt := 54) dX10_addsRow_95 (by decide) ?_
    exact e_sub (ls2 := [(0, vR x0), (1, vI x1), (2, vL x2), (4, vI (w32 (x4 + 1)))]) [1, 2, 3, 0] rfl h

def LX10_addsAll_12 (G : Gl) (x0 : Nat) (x1 : Int) (x2 : Int) (S : Sh) (I : MI) (R : MR) (Q : Sh → MI → MR → Prop) : Prop := E G MX10_addsAll 12 [(0, vR x0), (1, vI x1), (2, vI x2)] [] S I R (qV Q)
set_option maxRecDepth 100000 in
set_option maxHeartbeats 4000000 in
theorem bX10_addsAll {G : Gl} {S : Sh} {I : MI} {R : MR} {Q : Sh → MI → MR → Prop} {x0 : Nat} {x1 : Int} (h : (sT S x0 = 10 ∧ (sT S (R x0 4) = 21 ∧ (((0 : Int) ≤ x1 ∧ x1 < (sL S (R x0 4) : Int)) ∧ (((I (R x0 4) (Int.toNat x1)) ≠ 0 → LX10_addsAll_12 G x0 x1 0 S I R Q) ∧ (¬ ((I (R x0 4) (Int.toNat x1)) ≠ 0) → Q S I R)))))) : CV G MX10_addsAll [vR x0, vI x1] S I R Q := by
  show E G MX10_addsAll 0 [(0, vR x0), (1, vI x1)] [] S I R (qV Q)
  refine e_aload_n 0 dX10_addsAll_0 rfl ?_
  have o1 := h.1
  replace h := h.2
  refine e_getR dX10_addsAll_1 flX10_20 rfl o1 ?_
  refine e_iload_n 1 dX10_addsAll_4 rfl ?_
  have o2 := h.1
  replace h := h.2
  have o3 := h.1
  replace h := h.2
  refine e_iald dX10_addsAll_5 o2 o3 ?_
  refine e_if_ne (tgt := 10) dX10_addsAll_6 (by decide) (fun c => ?_) (fun c => ?_)
  · replace h := h.1 c
    refine e_iconst dX10_addsAll_10 (by unfold InR; decide) ?_
    refine e_istore_n (ls2 := [(2, vI 0), (0, vR x0), (1, vI x1)]) dX10_addsAll_11 (by decide) rfl ?_
    exact e_sub (ls2 := [(0, vR x0), (1, vI x1), (2, vI 0)]) [1, 2, 0] rfl h
  · replace h := h.2 c
    exact e_return dX10_addsAll_9 rfl ⟨rfl, h⟩
set_option maxRecDepth 100000 in
set_option maxHeartbeats 4000000 in
theorem bX10_addsAll_12 {G : Gl} {S : Sh} {I : MI} {R : MR} {Q : Sh → MI → MR → Prop} {x0 : Nat} {x1 : Int} {x2 : Int} (h : (sT S x0 = 10 ∧ (((I x0 28) ≤ x2 → Q S I R) ∧ (¬ ((I x0 28) ≤ x2) → ((pX10_degreeAt S I R x0 x2) ∧ ((pX10_low S I R x0 x1) ∧ ((pX10_degreeAt S I R x0 (w32 ((I x0 28) - 1))) ∧ (((w32 ((vX10_degreeAt I R x0 x2) + (vX10_low I R x0 x1))) ≤ (vX10_degreeAt I R x0 (w32 ((I x0 28) - 1))) → (sT S (R x0 27) = 21 ∧ (((0 : Int) ≤ (w32 (3 * x2)) ∧ (w32 (3 * x2)) < (sL S (R x0 27) : Int)) ∧ (((0 : Int) ≤ (w32 ((w32 (3 * x2)) + 1)) ∧ (w32 ((w32 (3 * x2)) + 1)) < (sL S (R x0 27) : Int)) ∧ (((0 : Int) ≤ (w32 ((w32 (3 * x2)) + 2)) ∧ (w32 ((w32 (3 * x2)) + 2)) < (sL S (R x0 27) : Int)) ∧ (CV G MX10_laysRow [vR x0, vI x1, vI (I (R x0 27) (Int.toNat (w32 (3 * x2)))), vI (I (R x0 27) (Int.toNat (w32 ((w32 (3 * x2)) + 1)))), vI (I (R x0 27) (Int.toNat (w32 ((w32 (3 * x2)) + 2))))] S I R (fun S77 I77 R77 => (sT S77 x0 = 10 ∧ (CV G MX10_addsRow [vR x0] S77 I77 R77 (fun S81 I81 R81 => LX10_addsAll_12 G x0 x1 (w32 (x2 + 1)) S81 I81 R81 Q)))))))))) ∧ (¬ ((w32 ((vX10_degreeAt I R x0 x2) + (vX10_low I R x0 x1))) ≤ (vX10_degreeAt I R x0 (w32 ((I x0 28) - 1)))) → LX10_addsAll_12 G x0 x1 (w32 (x2 + 1)) S I R Q))))))))) : LX10_addsAll_12 G x0 x1 x2 S I R Q := by
  show E G MX10_addsAll 12 [(0, vR x0), (1, vI x1), (2, vI x2)] [] S I R (qV Q)
  refine e_iload_n 2 dX10_addsAll_12 rfl ?_
  refine e_aload_n 0 dX10_addsAll_13 rfl ?_
  have o4 := h.1
  replace h := h.2
  refine e_getI dX10_addsAll_14 flX10_283 rfl o4 ?_
  refine e_icmp_ge (tgt := 90) dX10_addsAll_17 (by decide) (fun c => ?_) (fun c => ?_)
  · replace h := h.1 c
    exact e_return dX10_addsAll_90 rfl ⟨rfl, h⟩
  · replace h := h.2 c
    refine e_aload_n 0 dX10_addsAll_20 rfl ?_
    refine e_iload_n 2 dX10_addsAll_21 rfl ?_
    have o5 := h.1
    replace h := h.2
    refine i_VI (μ' := MX10_degreeAt) (ci := 9) (r := x0) (as := [vI x2]) (st := []) rfl dX10_addsAll_22 mOKX10_degreeAt ⟨mlX10_295, imX10_degreeAt, seX10_degreeAt⟩ (by decide) (Nat.le_of_ble_eq_true rfl) rfl (Nat.le_of_ble_eq_true rfl) ⟨by decide, rfl⟩ o4 (sX10_degreeAt o5 ?_)
    refine e_aload_n 0 dX10_addsAll_25 rfl ?_
    refine e_iload_n 1 dX10_addsAll_26 rfl ?_
    have o6 := h.1
    replace h := h.2
    refine i_VI (μ' := MX10_low) (ci := 9) (r := x0) (as := [vI x1]) (st := [vI (vX10_degreeAt I R x0 x2)]) rfl dX10_addsAll_27 mOKX10_low ⟨mlX10_86, imX10_low, seX10_low⟩ (by decide) (Nat.le_of_ble_eq_true rfl) rfl (Nat.le_of_ble_eq_true rfl) ⟨by decide, rfl⟩ o4 (sX10_low o6 ?_)
    refine e_iadd dX10_addsAll_30 ?_
    refine e_aload_n 0 dX10_addsAll_31 rfl ?_
    refine e_aload_n 0 dX10_addsAll_32 rfl ?_
    refine e_getI dX10_addsAll_33 flX10_283 rfl o4 ?_
    refine e_iconst dX10_addsAll_36 (by unfold InR; decide) ?_
    refine e_isub dX10_addsAll_37 ?_
    have o7 := h.1
    replace h := h.2
    refine i_VI (μ' := MX10_degreeAt) (ci := 9) (r := x0) (as := [vI (w32 ((I x0 28) - 1))]) (st := [vI (w32 ((vX10_degreeAt I R x0 x2) + (vX10_low I R x0 x1)))]) rfl dX10_addsAll_38 mOKX10_degreeAt ⟨mlX10_295, imX10_degreeAt, seX10_degreeAt⟩ (by decide) (Nat.le_of_ble_eq_true rfl) rfl (Nat.le_of_ble_eq_true rfl) ⟨by decide, rfl⟩ o4 (sX10_degreeAt o7 ?_)
    refine e_icmp_le (tgt := 47) dX10_addsAll_41 (by decide) (fun c => ?_) (fun c => ?_)
    · replace h := h.1 c
      refine e_aload_n 0 dX10_addsAll_47 rfl ?_
      refine e_iload_n 1 dX10_addsAll_48 rfl ?_
      refine e_aload_n 0 dX10_addsAll_49 rfl ?_
      refine e_getR dX10_addsAll_50 flX10_52 rfl o4 ?_
      refine e_iconst dX10_addsAll_53 (by unfold InR; decide) ?_
      refine e_iload_n 2 dX10_addsAll_54 rfl ?_
      refine e_imul dX10_addsAll_55 ?_
      have o8 := h.1
      replace h := h.2
      have o9 := h.1
      replace h := h.2
      refine e_iald dX10_addsAll_56 o8 o9 ?_
      refine e_aload_n 0 dX10_addsAll_57 rfl ?_
      refine e_getR dX10_addsAll_58 flX10_52 rfl o4 ?_
      refine e_iconst dX10_addsAll_61 (by unfold InR; decide) ?_
      refine e_iload_n 2 dX10_addsAll_62 rfl ?_
      refine e_imul dX10_addsAll_63 ?_
      refine e_iconst dX10_addsAll_64 (by unfold InR; decide) ?_
      refine e_iadd dX10_addsAll_65 ?_
      have o10 := h.1
      replace h := h.2
      refine e_iald dX10_addsAll_66 o8 o10 ?_
      refine e_aload_n 0 dX10_addsAll_67 rfl ?_
      refine e_getR dX10_addsAll_68 flX10_52 rfl o4 ?_
      refine e_iconst dX10_addsAll_71 (by unfold InR; decide) ?_
      refine e_iload_n 2 dX10_addsAll_72 rfl ?_
      refine e_imul dX10_addsAll_73 ?_
      refine e_iconst dX10_addsAll_74 (by unfold InR; decide) ?_
      refine e_iadd dX10_addsAll_75 ?_
      have o11 := h.1
      replace h := h.2
      refine e_iald dX10_addsAll_76 o8 o11 ?_
      refine i_VV (μ' := MX10_laysRow) (ci := 9) (r := x0) (as := [vI x1, vI (I (R x0 27) (Int.toNat (w32 (3 * x2)))), vI (I (R x0 27) (Int.toNat (w32 ((w32 (3 * x2)) + 1)))), vI (I (R x0 27) (Int.toNat (w32 ((w32 (3 * x2)) + 2))))]) (st := []) rfl dX10_addsAll_77 mOKX10_laysRow ⟨mlX10_298, imX10_laysRow, seX10_laysRow⟩ (by decide) (Nat.le_of_ble_eq_true rfl) rfl (Nat.le_of_ble_eq_true rfl) ⟨by decide, rfl⟩ o4 (CV.mono h ?_)
      clear h
      intro S77 I77 R77 h
      refine e_aload_n 0 dX10_addsAll_80 rfl ?_
      have o12 := h.1
      replace h := h.2
      refine i_VV (μ' := MX10_addsRow) (ci := 9) (r := x0) (as := []) (st := []) rfl dX10_addsAll_81 mOKX10_addsRow ⟨mlX10_301, imX10_addsRow, seX10_addsRow⟩ (by decide) (Nat.le_of_ble_eq_true rfl) rfl (Nat.le_of_ble_eq_true rfl) ⟨by decide, rfl⟩ o12 (CV.mono h ?_)
      clear h
      intro S81 I81 R81 h
      refine e_iinc (ls2 := [(2, vI (w32 (x2 + 1))), (0, vR x0), (1, vI x1)]) 2 dX10_addsAll_84 rfl (by decide) rfl ?_
      refine e_goto (tgt := 12) dX10_addsAll_87 (by decide) ?_
      exact e_sub (ls2 := [(0, vR x0), (1, vI x1), (2, vI (w32 (x2 + 1)))]) [1, 2, 0] rfl h
    · replace h := h.2 c
      refine e_goto (tgt := 84) dX10_addsAll_44 (by decide) ?_
      refine e_iinc (ls2 := [(2, vI (w32 (x2 + 1))), (0, vR x0), (1, vI x1)]) 2 dX10_addsAll_84 rfl (by decide) rfl ?_
      refine e_goto (tgt := 12) dX10_addsAll_87 (by decide) ?_
      exact e_sub (ls2 := [(0, vR x0), (1, vI x1), (2, vI (w32 (x2 + 1)))]) [1, 2, 0] rfl h

def LX10_beginsIdeal_7 (G : Gl) (x0 : Nat) (x2 : Int) (S : Sh) (I : MI) (R : MR) (Q : Sh → MI → MR → Prop) : Prop := E G MX10_beginsIdeal 7 [(0, vR x0), (2, vI x2)] [] S I R (qV Q)
set_option maxRecDepth 100000 in
set_option maxHeartbeats 4000000 in
theorem bX10_beginsIdeal {G : Gl} {S : Sh} {I : MI} {R : MR} {Q : Sh → MI → MR → Prop} {x0 : Nat} {x1 : Int} (h : (sT S x0 = 10 ∧ (CV G MX10_laysMonomials [vR x0, vI x1] S I R (fun S2 I2 R2 => LX10_beginsIdeal_7 G x0 0 S2 I2 R2 Q)))) : CV G MX10_beginsIdeal [vR x0, vI x1] S I R Q := by
  show E G MX10_beginsIdeal 0 [(0, vR x0), (1, vI x1)] [] S I R (qV Q)
  refine e_aload_n 0 dX10_beginsIdeal_0 rfl ?_
  refine e_iload_n 1 dX10_beginsIdeal_1 rfl ?_
  have o1 := h.1
  replace h := h.2
  refine i_VV (μ' := MX10_laysMonomials) (ci := 9) (r := x0) (as := [vI x1]) (st := []) rfl dX10_beginsIdeal_2 mOKX10_laysMonomials ⟨mlX10_304, imX10_laysMonomials, seX10_laysMonomials⟩ (by decide) (Nat.le_of_ble_eq_true rfl) rfl (Nat.le_of_ble_eq_true rfl) ⟨by decide, rfl⟩ o1 (CV.mono h ?_)
  clear h
  intro S2 I2 R2 h
  refine e_iconst dX10_beginsIdeal_5 (by unfold InR; decide) ?_
  refine e_istore_n (ls2 := [(2, vI 0), (0, vR x0), (1, vI x1)]) dX10_beginsIdeal_6 (by decide) rfl ?_
  exact e_sub (ls2 := [(0, vR x0), (2, vI 0)]) [1, 0] rfl h
set_option maxRecDepth 100000 in
set_option maxHeartbeats 4000000 in
theorem bX10_beginsIdeal_7 {G : Gl} {S : Sh} {I : MI} {R : MR} {Q : Sh → MI → MR → Prop} {x0 : Nat} {x2 : Int} (h : (sT S x0 = 10 ∧ (((I x0 28) ≤ x2 → Q S I R) ∧ (¬ ((I x0 28) ≤ x2) → (sT S (R x0 30) = 23 ∧ (((0 : Int) ≤ x2 ∧ x2 < (sL S (R x0 30) : Int)) ∧ (∀ I21, I21 = up2 I (R x0 30) (Int.toNat x2) 0 → LX10_beginsIdeal_7 G x0 (w32 (x2 + 1)) S I21 R Q))))))) : LX10_beginsIdeal_7 G x0 x2 S I R Q := by
  show E G MX10_beginsIdeal 7 [(0, vR x0), (2, vI x2)] [] S I R (qV Q)
  refine e_iload_n 1 dX10_beginsIdeal_7 rfl ?_
  refine e_aload_n 0 dX10_beginsIdeal_8 rfl ?_
  have o2 := h.1
  replace h := h.2
  refine e_getI dX10_beginsIdeal_9 flX10_283 rfl o2 ?_
  refine e_icmp_ge (tgt := 28) dX10_beginsIdeal_12 (by decide) (fun c => ?_) (fun c => ?_)
  · replace h := h.1 c
    exact e_return dX10_beginsIdeal_28 rfl ⟨rfl, h⟩
  · replace h := h.2 c
    refine e_aload_n 0 dX10_beginsIdeal_15 rfl ?_
    refine e_getR dX10_beginsIdeal_16 flX10_58 rfl o2 ?_
    refine e_iload_n 1 dX10_beginsIdeal_19 rfl ?_
    refine e_iconst dX10_beginsIdeal_20 (by unfold InR; decide) ?_
    have o3 := h.1
    replace h := h.2
    have o4 := h.1
    replace h := h.2
    obtain ⟨I21, eI21⟩ : ∃ z : MI, z = up2 I (R x0 30) (Int.toNat x2) 0 := ⟨_, rfl⟩
    replace h := h I21 eI21
    refine e_zast dX10_beginsIdeal_21 o3 o4 (by decide) (eqI eI21 ?_)
    refine e_iinc (ls2 := [(2, vI (w32 (x2 + 1))), (0, vR x0)]) 1 dX10_beginsIdeal_22 rfl (by decide) rfl ?_
    refine e_goto (tgt := 7) dX10_beginsIdeal_25 (by decide) ?_
    exact e_sub (ls2 := [(0, vR x0), (2, vI (w32 (x2 + 1)))]) [1, 0] rfl h

def LX10_laysIdeal_7 (G : Gl) (x0 : Nat) (x1 : Int) (x3 : Int) (S : Sh) (I : MI) (R : MR) (Q : Sh → MI → MR → Prop) : Prop := E G MX10_laysIdeal 7 [(0, vR x0), (1, vI x1), (3, vI x3)] [] S I R (qV Q)
set_option maxRecDepth 100000 in
set_option maxHeartbeats 4000000 in
theorem bX10_laysIdeal {G : Gl} {S : Sh} {I : MI} {R : MR} {Q : Sh → MI → MR → Prop} {x0 : Nat} {x1 : Int} {x2 : Int} (h : (sT S x0 = 10 ∧ (CV G MX10_beginsIdeal [vR x0, vI x2] S I R (fun S2 I2 R2 => LX10_laysIdeal_7 G x0 x1 0 S2 I2 R2 Q)))) : CV G MX10_laysIdeal [vR x0, vI x1, vI x2] S I R Q := by
  show E G MX10_laysIdeal 0 [(0, vR x0), (1, vI x1), (2, vI x2)] [] S I R (qV Q)
  refine e_aload_n 0 dX10_laysIdeal_0 rfl ?_
  refine e_iload_n 2 dX10_laysIdeal_1 rfl ?_
  have o1 := h.1
  replace h := h.2
  refine i_VV (μ' := MX10_beginsIdeal) (ci := 9) (r := x0) (as := [vI x2]) (st := []) rfl dX10_laysIdeal_2 mOKX10_beginsIdeal ⟨mlX10_307, imX10_beginsIdeal, seX10_beginsIdeal⟩ (by decide) (Nat.le_of_ble_eq_true rfl) rfl (Nat.le_of_ble_eq_true rfl) ⟨by decide, rfl⟩ o1 (CV.mono h ?_)
  clear h
  intro S2 I2 R2 h
  refine e_iconst dX10_laysIdeal_5 (by unfold InR; decide) ?_
  refine e_istore_n (ls2 := [(3, vI 0), (0, vR x0), (1, vI x1), (2, vI x2)]) dX10_laysIdeal_6 (by decide) rfl ?_
  exact e_sub (ls2 := [(0, vR x0), (1, vI x1), (3, vI 0)]) [1, 2, 0] rfl h
set_option maxRecDepth 100000 in
set_option maxHeartbeats 4000000 in
theorem bX10_laysIdeal_7 {G : Gl} {S : Sh} {I : MI} {R : MR} {Q : Sh → MI → MR → Prop} {x0 : Nat} {x1 : Int} {x3 : Int} (h : ((8 ≤ x3 → Q S I R) ∧ (¬ (8 ≤ x3) → (sT S x0 = 10 ∧ (((vX10_has x0 x1 x3) = 0 → LX10_laysIdeal_7 G x0 x1 (w32 (x3 + 1)) S I R Q) ∧ (¬ ((vX10_has x0 x1 x3) = 0) → (CV G MX10_addsAll [vR x0, vI x3] S I R (fun S24 I24 R24 => LX10_laysIdeal_7 G x0 x1 (w32 (x3 + 1)) S24 I24 R24 Q)))))))) : LX10_laysIdeal_7 G x0 x1 x3 S I R Q := by
  show E G MX10_laysIdeal 7 [(0, vR x0), (1, vI x1), (3, vI x3)] [] S I R (qV Q)
  refine e_iload_n 2 dX10_laysIdeal_7 rfl ?_
  refine e_bipush (x := 8) dX10_laysIdeal_8 ⟨by decide +kernel, by unfold InR; decide⟩ ?_
  refine e_icmp_ge (tgt := 33) dX10_laysIdeal_10 (by decide) (fun c => ?_) (fun c => ?_)
  · replace h := h.1 c
    exact e_return dX10_laysIdeal_33 rfl ⟨rfl, h⟩
  · replace h := h.2 c
    refine e_aload_n 0 dX10_laysIdeal_13 rfl ?_
    refine e_iload_n 1 dX10_laysIdeal_14 rfl ?_
    refine e_iload_n 2 dX10_laysIdeal_15 rfl ?_
    have o2 := h.1
    replace h := h.2
    refine i_VI (μ' := MX10_has) (ci := 9) (r := x0) (as := [vI x1, vI x3]) (st := []) rfl dX10_laysIdeal_16 mOKX10_has ⟨mlX10_264, imX10_has, seX10_has⟩ (by decide) (Nat.le_of_ble_eq_true rfl) rfl (Nat.le_of_ble_eq_true rfl) ⟨by decide, rfl⟩ o2 (sX10_has ?_)
    refine e_if_eq (tgt := 27) dX10_laysIdeal_19 (by decide) (fun c => ?_) (fun c => ?_)
    · replace h := h.1 c
      refine e_iinc (ls2 := [(3, vI (w32 (x3 + 1))), (0, vR x0), (1, vI x1)]) 2 dX10_laysIdeal_27 rfl (by decide) rfl ?_
      refine e_goto (tgt := 7) dX10_laysIdeal_30 (by decide) ?_
      exact e_sub (ls2 := [(0, vR x0), (1, vI x1), (3, vI (w32 (x3 + 1)))]) [1, 2, 0] rfl h
    · replace h := h.2 c
      refine e_aload_n 0 dX10_laysIdeal_22 rfl ?_
      refine e_iload_n 2 dX10_laysIdeal_23 rfl ?_
      refine i_VV (μ' := MX10_addsAll) (ci := 9) (r := x0) (as := [vI x3]) (st := []) rfl dX10_laysIdeal_24 mOKX10_addsAll ⟨mlX10_310, imX10_addsAll, seX10_addsAll⟩ (by decide) (Nat.le_of_ble_eq_true rfl) rfl (Nat.le_of_ble_eq_true rfl) ⟨by decide, rfl⟩ o2 (CV.mono h ?_)
      clear h
      intro S24 I24 R24 h
      refine e_iinc (ls2 := [(3, vI (w32 (x3 + 1))), (0, vR x0), (1, vI x1)]) 2 dX10_laysIdeal_27 rfl (by decide) rfl ?_
      refine e_goto (tgt := 7) dX10_laysIdeal_30 (by decide) ?_
      exact e_sub (ls2 := [(0, vR x0), (1, vI x1), (3, vI (w32 (x3 + 1)))]) [1, 2, 0] rfl h

def vX10_canAsk (I : MI) (x0 : Nat) (x1 : Int) (x2 : Int) : Int := (if (vX10_isIn x0 x1 0 255) = 0 then 0 else (if (vX10_isIn x0 x2 1 (vX10_bound I x0)) = 0 then 0 else 1))
def pX10_canAsk (S : Sh) (x0 : Nat) (x1 : Int) (x2 : Int) : Prop := (sT S x0 = 10 ∧ (((vX10_isIn x0 x1 0 255) = 0 → True) ∧ (¬ ((vX10_isIn x0 x1 0 255) = 0) → ((pX10_bound S x0) ∧ True))))
set_option maxRecDepth 100000 in
set_option maxHeartbeats 4000000 in
theorem sX10_canAsk {G : Gl} {S : Sh} {I : MI} {R : MR} {Q : Sh → MI → MR → Int → Prop} {x0 : Nat} {x1 : Int} {x2 : Int} (hp : pX10_canAsk S x0 x1 x2) (hq : Q S I R (vX10_canAsk I x0 x1 x2)) : CI G MX10_canAsk [vR x0, vI x1, vI x2] S I R Q := by
  show E G MX10_canAsk 0 [(0, vR x0), (1, vI x1), (2, vI x2)] [] S I R (qI Q)
  unfold vX10_canAsk at hq
  unfold pX10_canAsk at hp
  refine e_aload_n 0 dX10_canAsk_0 rfl ?_
  refine e_iload_n 1 dX10_canAsk_1 rfl ?_
  refine e_i2l dX10_canAsk_2 ?_
  refine e_lconst (x := 0) dX10_canAsk_3 ⟨by decide +kernel, by unfold InL; decide⟩ ?_
  refine e_ldc2 (x := 255) dX10_canAsk_4 cnX10_267 (by unfold InL; decide) ?_
  have o1 := hp.1
  replace hp := hp.2
  refine i_VI (μ' := MX10_isIn) (ci := 9) (r := x0) (as := [vL x1, vL 0, vL 255]) (st := []) rfl dX10_canAsk_7 mOKX10_isIn ⟨mlX10_106, imX10_isIn, seX10_isIn⟩ (by decide) (Nat.le_of_ble_eq_true rfl) rfl (Nat.le_of_ble_eq_true rfl) ⟨by decide, rfl⟩ o1 (sX10_isIn ?_)
  refine e_if_eq (tgt := 32) dX10_canAsk_10 (by decide) (fun c => ?_) (fun c => ?_)
  · rw [if_pos c] at hq
    replace hp := hp.1 c
    refine e_iconst dX10_canAsk_32 (by unfold InR; decide) ?_
    exact e_zreturn dX10_canAsk_33 rfl (by decide) ⟨_, rfl, hq⟩
  · rw [if_neg c] at hq
    replace hp := hp.2 c
    refine e_aload_n 0 dX10_canAsk_13 rfl ?_
    refine e_iload_n 2 dX10_canAsk_14 rfl ?_
    refine e_i2l dX10_canAsk_15 ?_
    refine e_lconst (x := 1) dX10_canAsk_16 ⟨by decide +kernel, by unfold InL; decide⟩ ?_
    refine e_aload_n 0 dX10_canAsk_17 rfl ?_
    have o2 := hp.1
    replace hp := hp.2
    refine i_VI (μ' := MX10_bound) (ci := 9) (r := x0) (as := []) (st := [vL 1, vL x2, vR x0]) rfl dX10_canAsk_18 mOKX10_bound ⟨mlX10_313, imX10_bound, seX10_bound⟩ (by decide) (Nat.le_of_ble_eq_true rfl) rfl (Nat.le_of_ble_eq_true rfl) ⟨by decide, rfl⟩ o1 (sX10_bound o2 ?_)
    refine e_i2l dX10_canAsk_21 ?_
    refine i_VI (μ' := MX10_isIn) (ci := 9) (r := x0) (as := [vL x2, vL 1, vL (vX10_bound I x0)]) (st := []) rfl dX10_canAsk_22 mOKX10_isIn ⟨mlX10_106, imX10_isIn, seX10_isIn⟩ (by decide) (Nat.le_of_ble_eq_true rfl) rfl (Nat.le_of_ble_eq_true rfl) ⟨by decide, rfl⟩ o1 (sX10_isIn ?_)
    refine e_if_eq (tgt := 32) dX10_canAsk_25 (by decide) (fun c => ?_) (fun c => ?_)
    · rw [if_pos c] at hq
      refine e_iconst dX10_canAsk_32 (by unfold InR; decide) ?_
      exact e_zreturn dX10_canAsk_33 rfl (by decide) ⟨_, rfl, hq⟩
    · rw [if_neg c] at hq
      refine e_iconst dX10_canAsk_28 (by unfold InR; decide) ?_
      refine e_goto (tgt := 33) dX10_canAsk_29 (by decide) ?_
      exact e_zreturn dX10_canAsk_33 rfl (by decide) ⟨_, rfl, hq⟩

def LX10_isDivider_2 (G : Gl) (x0 : Nat) (x1 : Int) (x2 : Int) (x3 : Int) (S : Sh) (I : MI) (R : MR) (Q : Sh → MI → MR → Int → Prop) : Prop := E G MX10_isDivider 2 [(0, vR x0), (1, vI x1), (2, vI x2), (3, vI x3)] [] S I R (qI Q)
set_option maxRecDepth 100000 in
set_option maxHeartbeats 4000000 in
theorem bX10_isDivider {G : Gl} {S : Sh} {I : MI} {R : MR} {Q : Sh → MI → MR → Int → Prop} {x0 : Nat} {x1 : Int} {x2 : Int} (h : LX10_isDivider_2 G x0 x1 x2 0 S I R Q) : CI G MX10_isDivider [vR x0, vI x1, vI x2] S I R Q := by
  show E G MX10_isDivider 0 [(0, vR x0), (1, vI x1), (2, vI x2)] [] S I R (qI Q)
  refine e_iconst dX10_isDivider_0 (by unfold InR; decide) ?_
  refine e_istore_n (ls2 := [(3, vI 0), (0, vR x0), (1, vI x1), (2, vI x2)]) dX10_isDivider_1 (by decide) rfl ?_
  exact e_sub (ls2 := [(0, vR x0), (1, vI x1), (2, vI x2), (3, vI 0)]) [1, 2, 3, 0] rfl h
set_option maxRecDepth 100000 in
set_option maxHeartbeats 4000000 in
theorem bX10_isDivider_2 {G : Gl} {S : Sh} {I : MI} {R : MR} {Q : Sh → MI → MR → Int → Prop} {x0 : Nat} {x1 : Int} {x2 : Int} {x3 : Int} (h : ((3 ≤ x3 → Q S I R 1) ∧ (¬ (3 ≤ x3) → (sT S x0 = 10 ∧ (sT S (R x0 27) = 21 ∧ (((0 : Int) ≤ (w32 ((w32 (3 * x1)) + x3)) ∧ (w32 ((w32 (3 * x1)) + x3)) < (sL S (R x0 27) : Int)) ∧ (((0 : Int) ≤ (w32 ((w32 (3 * x2)) + x3)) ∧ (w32 ((w32 (3 * x2)) + x3)) < (sL S (R x0 27) : Int)) ∧ (((I (R x0 27) (Int.toNat (w32 ((w32 (3 * x1)) + x3)))) ≤ (I (R x0 27) (Int.toNat (w32 ((w32 (3 * x2)) + x3)))) → LX10_isDivider_2 G x0 x1 x2 (w32 (x3 + 1)) S I R Q) ∧ (¬ ((I (R x0 27) (Int.toNat (w32 ((w32 (3 * x1)) + x3)))) ≤ (I (R x0 27) (Int.toNat (w32 ((w32 (3 * x2)) + x3))))) → Q S I R 0))))))))) : LX10_isDivider_2 G x0 x1 x2 x3 S I R Q := by
  show E G MX10_isDivider 2 [(0, vR x0), (1, vI x1), (2, vI x2), (3, vI x3)] [] S I R (qI Q)
  refine e_iload_n 3 dX10_isDivider_2 rfl ?_
  refine e_iconst dX10_isDivider_3 (by unfold InR; decide) ?_
  refine e_icmp_ge (tgt := 38) dX10_isDivider_4 (by decide) (fun c => ?_) (fun c => ?_)
  · replace h := h.1 c
    refine e_iconst dX10_isDivider_38 (by unfold InR; decide) ?_
    exact e_zreturn dX10_isDivider_39 rfl (by decide) ⟨_, rfl, h⟩
  · replace h := h.2 c
    refine e_aload_n 0 dX10_isDivider_7 rfl ?_
    have o1 := h.1
    replace h := h.2
    refine e_getR dX10_isDivider_8 flX10_52 rfl o1 ?_
    refine e_iconst dX10_isDivider_11 (by unfold InR; decide) ?_
    refine e_iload_n 1 dX10_isDivider_12 rfl ?_
    refine e_imul dX10_isDivider_13 ?_
    refine e_iload_n 3 dX10_isDivider_14 rfl ?_
    refine e_iadd dX10_isDivider_15 ?_
    have o2 := h.1
    replace h := h.2
    have o3 := h.1
    replace h := h.2
    refine e_iald dX10_isDivider_16 o2 o3 ?_
    refine e_aload_n 0 dX10_isDivider_17 rfl ?_
    refine e_getR dX10_isDivider_18 flX10_52 rfl o1 ?_
    refine e_iconst dX10_isDivider_21 (by unfold InR; decide) ?_
    refine e_iload_n 2 dX10_isDivider_22 rfl ?_
    refine e_imul dX10_isDivider_23 ?_
    refine e_iload_n 3 dX10_isDivider_24 rfl ?_
    refine e_iadd dX10_isDivider_25 ?_
    have o4 := h.1
    replace h := h.2
    refine e_iald dX10_isDivider_26 o2 o4 ?_
    refine e_icmp_le (tgt := 32) dX10_isDivider_27 (by decide) (fun c => ?_) (fun c => ?_)
    · replace h := h.1 c
      refine e_iinc (ls2 := [(3, vI (w32 (x3 + 1))), (0, vR x0), (1, vI x1), (2, vI x2)]) 3 dX10_isDivider_32 rfl (by decide) rfl ?_
      refine e_goto (tgt := 2) dX10_isDivider_35 (by decide) ?_
      exact e_sub (ls2 := [(0, vR x0), (1, vI x1), (2, vI x2), (3, vI (w32 (x3 + 1)))]) [1, 2, 3, 0] rfl h
    · replace h := h.2 c
      refine e_iconst dX10_isDivider_30 (by unfold InR; decide) ?_
      exact e_zreturn dX10_isDivider_31 rfl (by decide) ⟨_, rfl, h⟩

def LX10_isCorner_2 (G : Gl) (x0 : Nat) (x1 : Int) (x2 : Int) (S : Sh) (I : MI) (R : MR) (Q : Sh → MI → MR → Int → Prop) : Prop := E G MX10_isCorner 2 [(0, vR x0), (1, vI x1), (2, vI x2)] [] S I R (qI Q)
set_option maxRecDepth 100000 in
set_option maxHeartbeats 4000000 in
theorem bX10_isCorner {G : Gl} {S : Sh} {I : MI} {R : MR} {Q : Sh → MI → MR → Int → Prop} {x0 : Nat} {x1 : Int} (h : LX10_isCorner_2 G x0 x1 0 S I R Q) : CI G MX10_isCorner [vR x0, vI x1] S I R Q := by
  show E G MX10_isCorner 0 [(0, vR x0), (1, vI x1)] [] S I R (qI Q)
  refine e_iconst dX10_isCorner_0 (by unfold InR; decide) ?_
  refine e_istore_n (ls2 := [(2, vI 0), (0, vR x0), (1, vI x1)]) dX10_isCorner_1 (by decide) rfl ?_
  exact e_sub (ls2 := [(0, vR x0), (1, vI x1), (2, vI 0)]) [1, 2, 0] rfl h
set_option maxRecDepth 100000 in
set_option maxHeartbeats 4000000 in
theorem bX10_isCorner_2 {G : Gl} {S : Sh} {I : MI} {R : MR} {Q : Sh → MI → MR → Int → Prop} {x0 : Nat} {x1 : Int} {x2 : Int} (h : (sT S x0 = 10 ∧ (((I x0 28) ≤ x2 → (sT S (R x0 30) = 23 ∧ (((0 : Int) ≤ x1 ∧ x1 < (sL S (R x0 30) : Int)) ∧ (((I (R x0 30) (Int.toNat x1)) = 0 ∨ (I (R x0 30) (Int.toNat x1)) = 1) ∧ Q S I R (I (R x0 30) (Int.toNat x1)))))) ∧ (¬ ((I x0 28) ≤ x2) → ((x2 = x1 → LX10_isCorner_2 G x0 x1 (w32 (x2 + 1)) S I R Q) ∧ (¬ (x2 = x1) → (sT S (R x0 30) = 23 ∧ (((0 : Int) ≤ x2 ∧ x2 < (sL S (R x0 30) : Int)) ∧ (((I (R x0 30) (Int.toNat x2)) = 0 → LX10_isCorner_2 G x0 x1 (w32 (x2 + 1)) S I R Q) ∧ (¬ ((I (R x0 30) (Int.toNat x2)) = 0) → (CI G MX10_isDivider [vR x0, vI x2, vI x1] S I R (fun S27 I27 R27 x27_ => ((x27_ = 0 → LX10_isCorner_2 G x0 x1 (w32 (x2 + 1)) S27 I27 R27 Q) ∧ (¬ (x27_ = 0) → Q S27 I27 R27 0)))))))))))))) : LX10_isCorner_2 G x0 x1 x2 S I R Q := by
  show E G MX10_isCorner 2 [(0, vR x0), (1, vI x1), (2, vI x2)] [] S I R (qI Q)
  refine e_iload_n 2 dX10_isCorner_2 rfl ?_
  refine e_aload_n 0 dX10_isCorner_3 rfl ?_
  have o1 := h.1
  replace h := h.2
  refine e_getI dX10_isCorner_4 flX10_283 rfl o1 ?_
  refine e_icmp_ge (tgt := 41) dX10_isCorner_7 (by decide) (fun c => ?_) (fun c => ?_)
  · replace h := h.1 c
    refine e_aload_n 0 dX10_isCorner_41 rfl ?_
    refine e_getR dX10_isCorner_42 flX10_58 rfl o1 ?_
    refine e_iload_n 1 dX10_isCorner_45 rfl ?_
    have o2 := h.1
    replace h := h.2
    have o3 := h.1
    replace h := h.2
    refine e_zald dX10_isCorner_46 o2 o3 ?_
    exact e_zreturn dX10_isCorner_47 rfl h.1 ⟨_, rfl, h.2⟩
  · replace h := h.2 c
    refine e_iload_n 2 dX10_isCorner_10 rfl ?_
    refine e_iload_n 1 dX10_isCorner_11 rfl ?_
    refine e_icmp_eq (tgt := 35) dX10_isCorner_12 (by decide) (fun c => ?_) (fun c => ?_)
    · replace h := h.1 c
      refine e_iinc (ls2 := [(2, vI (w32 (x2 + 1))), (0, vR x0), (1, vI x1)]) 2 dX10_isCorner_35 rfl (by decide) rfl ?_
      refine e_goto (tgt := 2) dX10_isCorner_38 (by decide) ?_
      exact e_sub (ls2 := [(0, vR x0), (1, vI x1), (2, vI (w32 (x2 + 1)))]) [1, 2, 0] rfl h
    · replace h := h.2 c
      refine e_aload_n 0 dX10_isCorner_15 rfl ?_
      refine e_getR dX10_isCorner_16 flX10_58 rfl o1 ?_
      refine e_iload_n 2 dX10_isCorner_19 rfl ?_
      have o4 := h.1
      replace h := h.2
      have o5 := h.1
      replace h := h.2
      refine e_zald dX10_isCorner_20 o4 o5 ?_
      refine e_if_eq (tgt := 35) dX10_isCorner_21 (by decide) (fun c => ?_) (fun c => ?_)
      · replace h := h.1 c
        refine e_iinc (ls2 := [(2, vI (w32 (x2 + 1))), (0, vR x0), (1, vI x1)]) 2 dX10_isCorner_35 rfl (by decide) rfl ?_
        refine e_goto (tgt := 2) dX10_isCorner_38 (by decide) ?_
        exact e_sub (ls2 := [(0, vR x0), (1, vI x1), (2, vI (w32 (x2 + 1)))]) [1, 2, 0] rfl h
      · replace h := h.2 c
        refine e_aload_n 0 dX10_isCorner_24 rfl ?_
        refine e_iload_n 2 dX10_isCorner_25 rfl ?_
        refine e_iload_n 1 dX10_isCorner_26 rfl ?_
        refine i_VI (μ' := MX10_isDivider) (ci := 9) (r := x0) (as := [vI x2, vI x1]) (st := []) rfl dX10_isCorner_27 mOKX10_isDivider ⟨mlX10_316, imX10_isDivider, seX10_isDivider⟩ (by decide) (Nat.le_of_ble_eq_true rfl) rfl (Nat.le_of_ble_eq_true rfl) ⟨by decide, rfl⟩ o1 (CI.mono h ?_)
        clear h
        intro S27 I27 R27 x27_ h
        refine e_if_eq (tgt := 35) dX10_isCorner_30 (by decide) (fun c => ?_) (fun c => ?_)
        · replace h := h.1 c
          refine e_iinc (ls2 := [(2, vI (w32 (x2 + 1))), (0, vR x0), (1, vI x1)]) 2 dX10_isCorner_35 rfl (by decide) rfl ?_
          refine e_goto (tgt := 2) dX10_isCorner_38 (by decide) ?_
          exact e_sub (ls2 := [(0, vR x0), (1, vI x1), (2, vI (w32 (x2 + 1)))]) [1, 2, 0] rfl h
        · replace h := h.2 c
          refine e_iconst dX10_isCorner_33 (by unfold InR; decide) ?_
          exact e_zreturn dX10_isCorner_34 rfl (by decide) ⟨_, rfl, h⟩

def LX10_found_5 (G : Gl) (x0 : Nat) (x1 : Int) (x2 : Int) (x3 : Int) (x4 : Int) (S : Sh) (I : MI) (R : MR) (Q : Sh → MI → MR → Int → Prop) : Prop := E G MX10_found 5 [(0, vR x0), (1, vI x1), (2, vI x2), (3, vI x3), (4, vI x4)] [] S I R (qI Q)
def LX10_found_43 (G : Gl) (x0 : Nat) (x1 : Int) (x2 : Int) (x3 : Int) (x4 : Int) (S : Sh) (I : MI) (R : MR) (Q : Sh → MI → MR → Int → Prop) : Prop := E G MX10_found 43 [(0, vR x0), (1, vI x1), (2, vI x2), (3, vI x3), (4, vI x4)] [] S I R (qI Q)
set_option maxRecDepth 100000 in
set_option maxHeartbeats 4000000 in
theorem bX10_found {G : Gl} {S : Sh} {I : MI} {R : MR} {Q : Sh → MI → MR → Int → Prop} {x0 : Nat} {x1 : Int} {x2 : Int} (h : LX10_found_5 G x0 x1 x2 0 0 S I R Q) : CI G MX10_found [vR x0, vI x1, vI x2] S I R Q := by
  show E G MX10_found 0 [(0, vR x0), (1, vI x1), (2, vI x2)] [] S I R (qI Q)
  refine e_iconst dX10_found_0 (by unfold InR; decide) ?_
  refine e_istore_n (ls2 := [(3, vI 0), (0, vR x0), (1, vI x1), (2, vI x2)]) dX10_found_1 (by decide) rfl ?_
  refine e_iconst dX10_found_2 (by unfold InR; decide) ?_
  refine e_istore (ls2 := [(4, vI 0), (3, vI 0), (0, vR x0), (1, vI x1), (2, vI x2)]) dX10_found_3 (by decide) rfl ?_
  exact e_sub (ls2 := [(0, vR x0), (1, vI x1), (2, vI x2), (3, vI 0), (4, vI 0)]) [2, 3, 4, 1, 0] rfl h
set_option maxRecDepth 100000 in
set_option maxHeartbeats 4000000 in
theorem bX10_found_5 {G : Gl} {S : Sh} {I : MI} {R : MR} {Q : Sh → MI → MR → Int → Prop} {x0 : Nat} {x1 : Int} {x2 : Int} {x3 : Int} {x4 : Int} (h : (sT S x0 = 10 ∧ (((I x0 28) ≤ x4 → ((x2 ≠ (-1) → Q S I R (-1)) ∧ (¬ (x2 ≠ (-1)) → Q S I R x3))) ∧ (¬ ((I x0 28) ≤ x4) → ((x1 = 0 → (sT S (R x0 30) = 23 ∧ (((0 : Int) ≤ x4 ∧ x4 < (sL S (R x0 30) : Int)) ∧ (((I (R x0 30) (Int.toNat x4)) = 0 → LX10_found_43 G x0 x1 x2 x3 x4 S I R Q) ∧ (¬ ((I (R x0 30) (Int.toNat x4)) = 0) → LX10_found_5 G x0 x1 x2 x3 (w32 (x4 + 1)) S I R Q))))) ∧ (¬ (x1 = 0) → (CI G MX10_isCorner [vR x0, vI x4] S I R (fun S21 I21 R21 x21_ => ((x21_ ≠ 0 → LX10_found_43 G x0 x1 x2 x3 x4 S21 I21 R21 Q) ∧ (¬ (x21_ ≠ 0) → LX10_found_5 G x0 x1 x2 x3 (w32 (x4 + 1)) S21 I21 R21 Q)))))))))) : LX10_found_5 G x0 x1 x2 x3 x4 S I R Q := by
  show E G MX10_found 5 [(0, vR x0), (1, vI x1), (2, vI x2), (3, vI x3), (4, vI x4)] [] S I R (qI Q)
  refine e_iload 4 dX10_found_5 rfl ?_
  refine e_aload_n 0 dX10_found_7 rfl ?_
  have o1 := h.1
  replace h := h.2
  refine e_getI dX10_found_8 flX10_283 rfl o1 ?_
  refine e_icmp_ge (tgt := 61) dX10_found_11 (by decide) (fun c => ?_) (fun c => ?_)
  · replace h := h.1 c
    refine e_iload_n 2 dX10_found_61 rfl ?_
    refine e_iconst dX10_found_62 (by unfold InR; decide) ?_
    refine e_icmp_ne (tgt := 70) dX10_found_63 (by decide) (fun c => ?_) (fun c => ?_)
    · replace h := h.1 c
      refine e_iconst dX10_found_70 (by unfold InR; decide) ?_
      exact e_ireturn dX10_found_71 rfl ⟨_, rfl, h⟩
    · replace h := h.2 c
      refine e_iload_n 3 dX10_found_66 rfl ?_
      refine e_goto (tgt := 71) dX10_found_67 (by decide) ?_
      exact e_ireturn dX10_found_71 rfl ⟨_, rfl, h⟩
  · replace h := h.2 c
    refine e_iload_n 1 dX10_found_14 rfl ?_
    refine e_if_eq (tgt := 30) dX10_found_15 (by decide) (fun c => ?_) (fun c => ?_)
    · replace h := h.1 c
      refine e_aload_n 0 dX10_found_30 rfl ?_
      refine e_getR dX10_found_31 flX10_58 rfl o1 ?_
      refine e_iload 4 dX10_found_34 rfl ?_
      have o2 := h.1
      replace h := h.2
      have o3 := h.1
      replace h := h.2
      refine e_zald dX10_found_36 o2 o3 ?_
      refine e_if_eq (tgt := 43) dX10_found_37 (by decide) (fun c => ?_) (fun c => ?_)
      · replace h := h.1 c
        exact e_sub (ls2 := [(0, vR x0), (1, vI x1), (2, vI x2), (3, vI x3), (4, vI x4)]) [0, 1, 2, 3, 4] rfl h
      · replace h := h.2 c
        refine e_goto (tgt := 55) dX10_found_40 (by decide) ?_
        refine e_iinc (ls2 := [(4, vI (w32 (x4 + 1))), (0, vR x0), (1, vI x1), (2, vI x2), (3, vI x3)]) 4 dX10_found_55 rfl (by decide) rfl ?_
        refine e_goto (tgt := 5) dX10_found_58 (by decide) ?_
        exact e_sub (ls2 := [(0, vR x0), (1, vI x1), (2, vI x2), (3, vI x3), (4, vI (w32 (x4 + 1)))]) [1, 2, 3, 4, 0] rfl h
    · replace h := h.2 c
      refine e_aload_n 0 dX10_found_18 rfl ?_
      refine e_iload 4 dX10_found_19 rfl ?_
      refine i_VI (μ' := MX10_isCorner) (ci := 9) (r := x0) (as := [vI x4]) (st := []) rfl dX10_found_21 mOKX10_isCorner ⟨mlX10_319, imX10_isCorner, seX10_isCorner⟩ (by decide) (Nat.le_of_ble_eq_true rfl) rfl (Nat.le_of_ble_eq_true rfl) ⟨by decide, rfl⟩ o1 (CI.mono h ?_)
      clear h
      intro S21 I21 R21 x21_ h
      refine e_if_ne (tgt := 43) dX10_found_24 (by decide) (fun c => ?_) (fun c => ?_)
      · replace h := h.1 c
        exact e_sub (ls2 := [(0, vR x0), (1, vI x1), (2, vI x2), (3, vI x3), (4, vI x4)]) [0, 1, 2, 3, 4] rfl h
      · replace h := h.2 c
        refine e_goto (tgt := 55) dX10_found_27 (by decide) ?_
        refine e_iinc (ls2 := [(4, vI (w32 (x4 + 1))), (0, vR x0), (1, vI x1), (2, vI x2), (3, vI x3)]) 4 dX10_found_55 rfl (by decide) rfl ?_
        refine e_goto (tgt := 5) dX10_found_58 (by decide) ?_
        exact e_sub (ls2 := [(0, vR x0), (1, vI x1), (2, vI x2), (3, vI x3), (4, vI (w32 (x4 + 1)))]) [1, 2, 3, 4, 0] rfl h
set_option maxRecDepth 100000 in
set_option maxHeartbeats 4000000 in
theorem bX10_found_43 {G : Gl} {S : Sh} {I : MI} {R : MR} {Q : Sh → MI → MR → Int → Prop} {x0 : Nat} {x1 : Int} {x2 : Int} {x3 : Int} {x4 : Int} (h : ((x3 ≠ x2 → LX10_found_5 G x0 x1 x2 (w32 (x3 + 1)) (w32 (x4 + 1)) S I R Q) ∧ (¬ (x3 ≠ x2) → Q S I R x4))) : LX10_found_43 G x0 x1 x2 x3 x4 S I R Q := by
  show E G MX10_found 43 [(0, vR x0), (1, vI x1), (2, vI x2), (3, vI x3), (4, vI x4)] [] S I R (qI Q)
  refine e_iload_n 3 dX10_found_43 rfl ?_
  refine e_iload_n 2 dX10_found_44 rfl ?_
  refine e_icmp_ne (tgt := 51) dX10_found_45 (by decide) (fun c => ?_) (fun c => ?_)
  · replace h := h.1 c
    refine e_iload_n 3 dX10_found_51 rfl ?_
    refine e_iconst dX10_found_52 (by unfold InR; decide) ?_
    refine e_iadd dX10_found_53 ?_
    refine e_istore_n (ls2 := [(3, vI (w32 (x3 + 1))), (0, vR x0), (1, vI x1), (2, vI x2), (4, vI x4)]) dX10_found_54 (by decide) rfl ?_
    refine e_iinc (ls2 := [(4, vI (w32 (x4 + 1))), (3, vI (w32 (x3 + 1))), (0, vR x0), (1, vI x1), (2, vI x2)]) 4 dX10_found_55 rfl (by decide) rfl ?_
    refine e_goto (tgt := 5) dX10_found_58 (by decide) ?_
    exact e_sub (ls2 := [(0, vR x0), (1, vI x1), (2, vI x2), (3, vI (w32 (x3 + 1))), (4, vI (w32 (x4 + 1)))]) [2, 3, 4, 1, 0] rfl h
  · replace h := h.2 c
    refine e_iload 4 dX10_found_48 rfl ?_
    exact e_ireturn dX10_found_50 rfl ⟨_, rfl, h⟩

def vX10_ofMonomial (I : MI) (R : MR) (x0 : Nat) (x1 : Int) (x2 : Int) : Int := (if x1 = (-1) then (-1) else (if (vX10_isIn x0 x2 0 3) ≠ 0 then (if x2 ≠ 3 then (I (R x0 27) (Int.toNat (w32 ((w32 (3 * x1)) + x2)))) else (vX10_degreeAt I R x0 x1)) else (-1)))
def pX10_ofMonomial (S : Sh) (I : MI) (R : MR) (x0 : Nat) (x1 : Int) (x2 : Int) : Prop := ((x1 = (-1) → True) ∧ (¬ (x1 = (-1)) → (sT S x0 = 10 ∧ (((vX10_isIn x0 x2 0 3) ≠ 0 → ((x2 ≠ 3 → (sT S (R x0 27) = 21 ∧ (((0 : Int) ≤ (w32 ((w32 (3 * x1)) + x2)) ∧ (w32 ((w32 (3 * x1)) + x2)) < (sL S (R x0 27) : Int)) ∧ True))) ∧ (¬ (x2 ≠ 3) → ((pX10_degreeAt S I R x0 x1) ∧ True)))) ∧ (¬ ((vX10_isIn x0 x2 0 3) ≠ 0) → True)))))
set_option maxRecDepth 100000 in
set_option maxHeartbeats 4000000 in
theorem sX10_ofMonomial {G : Gl} {S : Sh} {I : MI} {R : MR} {Q : Sh → MI → MR → Int → Prop} {x0 : Nat} {x1 : Int} {x2 : Int} (hp : pX10_ofMonomial S I R x0 x1 x2) (hq : Q S I R (vX10_ofMonomial I R x0 x1 x2)) : CI G MX10_ofMonomial [vR x0, vI x1, vI x2] S I R Q := by
  show E G MX10_ofMonomial 0 [(0, vR x0), (1, vI x1), (2, vI x2)] [] S I R (qI Q)
  unfold vX10_ofMonomial at hq
  unfold pX10_ofMonomial at hp
  refine e_iload_n 1 dX10_ofMonomial_0 rfl ?_
  refine e_iconst dX10_ofMonomial_1 (by unfold InR; decide) ?_
  refine e_icmp_eq (tgt := 18) dX10_ofMonomial_2 (by decide) (fun c => ?_) (fun c => ?_)
  · rw [if_pos c] at hq
    replace hp := hp.1 c
    refine e_iconst dX10_ofMonomial_18 (by unfold InR; decide) ?_
    exact e_ireturn dX10_ofMonomial_19 rfl ⟨_, rfl, hq⟩
  · rw [if_neg c] at hq
    replace hp := hp.2 c
    refine e_aload_n 0 dX10_ofMonomial_5 rfl ?_
    refine e_iload_n 2 dX10_ofMonomial_6 rfl ?_
    refine e_i2l dX10_ofMonomial_7 ?_
    refine e_lconst (x := 0) dX10_ofMonomial_8 ⟨by decide +kernel, by unfold InL; decide⟩ ?_
    refine e_ldc2 (x := 3) dX10_ofMonomial_9 cnX10_110 (by unfold InL; decide) ?_
    have o1 := hp.1
    replace hp := hp.2
    refine i_VI (μ' := MX10_isIn) (ci := 9) (r := x0) (as := [vL x2, vL 0, vL 3]) (st := []) rfl dX10_ofMonomial_12 mOKX10_isIn ⟨mlX10_106, imX10_isIn, seX10_isIn⟩ (by decide) (Nat.le_of_ble_eq_true rfl) rfl (Nat.le_of_ble_eq_true rfl) ⟨by decide, rfl⟩ o1 (sX10_isIn ?_)
    refine e_if_ne (tgt := 20) dX10_ofMonomial_15 (by decide) (fun c => ?_) (fun c => ?_)
    · rw [if_pos c] at hq
      replace hp := hp.1 c
      refine e_iload_n 2 dX10_ofMonomial_20 rfl ?_
      refine e_iconst dX10_ofMonomial_21 (by unfold InR; decide) ?_
      refine e_icmp_ne (tgt := 33) dX10_ofMonomial_22 (by decide) (fun c => ?_) (fun c => ?_)
      · rw [if_pos c] at hq
        replace hp := hp.1 c
        refine e_aload_n 0 dX10_ofMonomial_33 rfl ?_
        refine e_getR dX10_ofMonomial_34 flX10_52 rfl o1 ?_
        refine e_iconst dX10_ofMonomial_37 (by unfold InR; decide) ?_
        refine e_iload_n 1 dX10_ofMonomial_38 rfl ?_
        refine e_imul dX10_ofMonomial_39 ?_
        refine e_iload_n 2 dX10_ofMonomial_40 rfl ?_
        refine e_iadd dX10_ofMonomial_41 ?_
        have o2 := hp.1
        replace hp := hp.2
        have o3 := hp.1
        replace hp := hp.2
        refine e_iald dX10_ofMonomial_42 o2 o3 ?_
        exact e_ireturn dX10_ofMonomial_43 rfl ⟨_, rfl, hq⟩
      · rw [if_neg c] at hq
        replace hp := hp.2 c
        refine e_aload_n 0 dX10_ofMonomial_25 rfl ?_
        refine e_iload_n 1 dX10_ofMonomial_26 rfl ?_
        have o4 := hp.1
        replace hp := hp.2
        refine i_VI (μ' := MX10_degreeAt) (ci := 9) (r := x0) (as := [vI x1]) (st := []) rfl dX10_ofMonomial_27 mOKX10_degreeAt ⟨mlX10_295, imX10_degreeAt, seX10_degreeAt⟩ (by decide) (Nat.le_of_ble_eq_true rfl) rfl (Nat.le_of_ble_eq_true rfl) ⟨by decide, rfl⟩ o1 (sX10_degreeAt o4 ?_)
        refine e_goto (tgt := 43) dX10_ofMonomial_30 (by decide) ?_
        exact e_ireturn dX10_ofMonomial_43 rfl ⟨_, rfl, hq⟩
    · rw [if_neg c] at hq
      replace hp := hp.2 c
      refine e_iconst dX10_ofMonomial_18 (by unfold InR; decide) ?_
      exact e_ireturn dX10_ofMonomial_19 rfl ⟨_, rfl, hq⟩

set_option maxRecDepth 100000 in
set_option maxHeartbeats 4000000 in
theorem bX10_corners {G : Gl} {S : Sh} {I : MI} {R : MR} {Q : Sh → MI → MR → Int → Prop} {x0 : Nat} {x1 : Int} {x2 : Int} (h : (sT S x0 = 10 ∧ (∀ I2, I2 = up2 I x0 0 0 → ((pX10_canAsk S x0 x1 x2) ∧ (((vX10_canAsk I2 x0 x1 x2) ≠ 0 → (CV G MX10_laysIdeal [vR x0, vI x1, vI x2] S I2 R (fun S19 I19 R19 => (sT S19 x0 = 10 ∧ (CI G MX10_found [vR x0, vI 1, vI (-1)] S19 I19 R19 (fun S25 I25 R25 x25_ => Q S25 I25 R25 x25_)))))) ∧ (¬ ((vX10_canAsk I2 x0 x1 x2) ≠ 0) → Q S I2 R (-1))))))) : CI G MX10_corners [vR x0, vI x1, vI x2] S I R Q := by
  show E G MX10_corners 0 [(0, vR x0), (1, vI x1), (2, vI x2)] [] S I R (qI Q)
  refine e_aload_n 0 dX10_corners_0 rfl ?_
  refine e_iconst dX10_corners_1 (by unfold InR; decide) ?_
  have o1 := h.1
  replace h := h.2
  obtain ⟨I2, eI2⟩ : ∃ z : MI, z = up2 I x0 0 0 := ⟨_, rfl⟩
  replace h := h I2 eI2
  refine e_putI dX10_corners_2 flX10_65 rfl (Or.inl rfl) o1 (eqI eI2 ?_)
  refine e_aload_n 0 dX10_corners_5 rfl ?_
  refine e_iload_n 1 dX10_corners_6 rfl ?_
  refine e_iload_n 2 dX10_corners_7 rfl ?_
  have o2 := h.1
  replace h := h.2
  refine i_VI (μ' := MX10_canAsk) (ci := 9) (r := x0) (as := [vI x1, vI x2]) (st := []) rfl dX10_corners_8 mOKX10_canAsk ⟨mlX10_322, imX10_canAsk, seX10_canAsk⟩ (by decide) (Nat.le_of_ble_eq_true rfl) rfl (Nat.le_of_ble_eq_true rfl) ⟨by decide, rfl⟩ o1 (sX10_canAsk o2 ?_)
  refine e_if_ne (tgt := 16) dX10_corners_11 (by decide) (fun c => ?_) (fun c => ?_)
  · replace h := h.1 c
    refine e_aload_n 0 dX10_corners_16 rfl ?_
    refine e_iload_n 1 dX10_corners_17 rfl ?_
    refine e_iload_n 2 dX10_corners_18 rfl ?_
    refine i_VV (μ' := MX10_laysIdeal) (ci := 9) (r := x0) (as := [vI x1, vI x2]) (st := []) rfl dX10_corners_19 mOKX10_laysIdeal ⟨mlX10_325, imX10_laysIdeal, seX10_laysIdeal⟩ (by decide) (Nat.le_of_ble_eq_true rfl) rfl (Nat.le_of_ble_eq_true rfl) ⟨by decide, rfl⟩ o1 (CV.mono h ?_)
    clear h
    intro S19 I19 R19 h
    refine e_aload_n 0 dX10_corners_22 rfl ?_
    refine e_iconst dX10_corners_23 (by unfold InR; decide) ?_
    refine e_iconst dX10_corners_24 (by unfold InR; decide) ?_
    have o3 := h.1
    replace h := h.2
    refine i_VI (μ' := MX10_found) (ci := 9) (r := x0) (as := [vI 1, vI (-1)]) (st := []) rfl dX10_corners_25 mOKX10_found ⟨mlX10_328, imX10_found, seX10_found⟩ (by decide) (Nat.le_of_ble_eq_true rfl) rfl (Nat.le_of_ble_eq_true rfl) ⟨by decide, rfl⟩ o3 (CI.mono h ?_)
    clear h
    intro S25 I25 R25 x25_ h
    exact e_ireturn dX10_corners_28 rfl ⟨_, rfl, h⟩
  · replace h := h.2 c
    refine e_iconst dX10_corners_14 (by unfold InR; decide) ?_
    exact e_ireturn dX10_corners_15 rfl ⟨_, rfl, h⟩

set_option maxRecDepth 100000 in
set_option maxHeartbeats 4000000 in
theorem bX10_corner {G : Gl} {S : Sh} {I : MI} {R : MR} {Q : Sh → MI → MR → Int → Prop} {x0 : Nat} {x1 : Int} {x2 : Int} {x3 : Int} {x4 : Int} (h : (sT S x0 = 10 ∧ (∀ I2, I2 = up2 I x0 0 0 → ((pX10_canAsk S x0 x1 x2) ∧ (((vX10_canAsk I2 x0 x1 x2) = 0 → Q S I2 R (-1)) ∧ (¬ ((vX10_canAsk I2 x0 x1 x2) = 0) → ((0 ≤ x3 → (CV G MX10_laysIdeal [vR x0, vI x1, vI x2] S I2 R (fun S23 I23 R23 => (sT S23 x0 = 10 ∧ (CI G MX10_found [vR x0, vI 1, vI x3] S23 I23 R23 (fun S30 I30 R30 x30_ => (sT S30 x0 = 10 ∧ ((pX10_ofMonomial S30 I30 R30 x0 x30_ x4) ∧ Q S30 I30 R30 (vX10_ofMonomial I30 R30 x0 x30_ x4))))))))) ∧ (¬ (0 ≤ x3) → Q S I2 R (-1))))))))) : CI G MX10_corner [vR x0, vI x1, vI x2, vI x3, vI x4] S I R Q := by
  show E G MX10_corner 0 [(0, vR x0), (1, vI x1), (2, vI x2), (3, vI x3), (4, vI x4)] [] S I R (qI Q)
  refine e_aload_n 0 dX10_corner_0 rfl ?_
  refine e_iconst dX10_corner_1 (by unfold InR; decide) ?_
  have o1 := h.1
  replace h := h.2
  obtain ⟨I2, eI2⟩ : ∃ z : MI, z = up2 I x0 0 0 := ⟨_, rfl⟩
  replace h := h I2 eI2
  refine e_putI dX10_corner_2 flX10_65 rfl (Or.inl rfl) o1 (eqI eI2 ?_)
  refine e_aload_n 0 dX10_corner_5 rfl ?_
  refine e_iload_n 1 dX10_corner_6 rfl ?_
  refine e_iload_n 2 dX10_corner_7 rfl ?_
  have o2 := h.1
  replace h := h.2
  refine i_VI (μ' := MX10_canAsk) (ci := 9) (r := x0) (as := [vI x1, vI x2]) (st := []) rfl dX10_corner_8 mOKX10_canAsk ⟨mlX10_322, imX10_canAsk, seX10_canAsk⟩ (by decide) (Nat.le_of_ble_eq_true rfl) rfl (Nat.le_of_ble_eq_true rfl) ⟨by decide, rfl⟩ o1 (sX10_canAsk o2 ?_)
  refine e_if_eq (tgt := 18) dX10_corner_11 (by decide) (fun c => ?_) (fun c => ?_)
  · replace h := h.1 c
    refine e_iconst dX10_corner_18 (by unfold InR; decide) ?_
    exact e_ireturn dX10_corner_19 rfl ⟨_, rfl, h⟩
  · replace h := h.2 c
    refine e_iload_n 3 dX10_corner_14 rfl ?_
    refine e_if_ge (tgt := 20) dX10_corner_15 (by decide) (fun c => ?_) (fun c => ?_)
    · replace h := h.1 c
      refine e_aload_n 0 dX10_corner_20 rfl ?_
      refine e_iload_n 1 dX10_corner_21 rfl ?_
      refine e_iload_n 2 dX10_corner_22 rfl ?_
      refine i_VV (μ' := MX10_laysIdeal) (ci := 9) (r := x0) (as := [vI x1, vI x2]) (st := []) rfl dX10_corner_23 mOKX10_laysIdeal ⟨mlX10_325, imX10_laysIdeal, seX10_laysIdeal⟩ (by decide) (Nat.le_of_ble_eq_true rfl) rfl (Nat.le_of_ble_eq_true rfl) ⟨by decide, rfl⟩ o1 (CV.mono h ?_)
      clear h
      intro S23 I23 R23 h
      refine e_aload_n 0 dX10_corner_26 rfl ?_
      refine e_aload_n 0 dX10_corner_27 rfl ?_
      refine e_iconst dX10_corner_28 (by unfold InR; decide) ?_
      refine e_iload_n 3 dX10_corner_29 rfl ?_
      have o3 := h.1
      replace h := h.2
      refine i_VI (μ' := MX10_found) (ci := 9) (r := x0) (as := [vI 1, vI x3]) (st := [vR x0]) rfl dX10_corner_30 mOKX10_found ⟨mlX10_328, imX10_found, seX10_found⟩ (by decide) (Nat.le_of_ble_eq_true rfl) rfl (Nat.le_of_ble_eq_true rfl) ⟨by decide, rfl⟩ o3 (CI.mono h ?_)
      clear h
      intro S30 I30 R30 x30_ h
      refine e_iload 4 dX10_corner_33 rfl ?_
      have o4 := h.1
      replace h := h.2
      have o5 := h.1
      replace h := h.2
      refine i_VI (μ' := MX10_ofMonomial) (ci := 9) (r := x0) (as := [vI x30_, vI x4]) (st := []) rfl dX10_corner_35 mOKX10_ofMonomial ⟨mlX10_332, imX10_ofMonomial, seX10_ofMonomial⟩ (by decide) (Nat.le_of_ble_eq_true rfl) rfl (Nat.le_of_ble_eq_true rfl) ⟨by decide, rfl⟩ o4 (sX10_ofMonomial o5 ?_)
      exact e_ireturn dX10_corner_38 rfl ⟨_, rfl, h⟩
    · replace h := h.2 c
      refine e_iconst dX10_corner_18 (by unfold InR; decide) ?_
      exact e_ireturn dX10_corner_19 rfl ⟨_, rfl, h⟩

def LX10_stairs_56 (G : Gl) (x0 : Nat) (x3 : Int) (x4 : Int) (x5 : Int) (S : Sh) (I : MI) (R : MR) (Q : Sh → MI → MR → Int → Prop) : Prop := E G MX10_stairs 56 [(0, vR x0), (3, vI x3), (4, vI x4), (5, vI x5)] [] S I R (qI Q)
set_option maxRecDepth 100000 in
set_option maxHeartbeats 4000000 in
theorem bX10_stairs {G : Gl} {S : Sh} {I : MI} {R : MR} {Q : Sh → MI → MR → Int → Prop} {x0 : Nat} {x1 : Int} {x2 : Int} {x3 : Int} (h : (sT S x0 = 10 ∧ (∀ I2, I2 = up2 I x0 0 0 → ((pX10_canAsk S x0 x1 x2) ∧ (((vX10_canAsk I2 x0 x1 x2) = 0 → Q S I2 R (-1)) ∧ (¬ ((vX10_canAsk I2 x0 x1 x2) = 0) → (((vX10_isIn x0 x3 (-1) (w64 (x2 - 1))) ≠ 0 → (CV G MX10_laysIdeal [vR x0, vI x1, vI x2] S I2 R (fun S35 I35 R35 => ((x3 ≠ (-1) → LX10_stairs_56 G x0 x3 0 0 S35 I35 R35 Q) ∧ (¬ (x3 ≠ (-1)) → (sT S35 x0 = 10 ∧ (CI G MX10_found [vR x0, vI 0, vI (-1)] S35 I35 R35 (fun S46 I46 R46 x46_ => Q S46 I46 R46 x46_)))))))) ∧ (¬ ((vX10_isIn x0 x3 (-1) (w64 (x2 - 1))) ≠ 0) → Q S I2 R (-1))))))))) : CI G MX10_stairs [vR x0, vI x1, vI x2, vI x3] S I R Q := by
  show E G MX10_stairs 0 [(0, vR x0), (1, vI x1), (2, vI x2), (3, vI x3)] [] S I R (qI Q)
  refine e_aload_n 0 dX10_stairs_0 rfl ?_
  refine e_iconst dX10_stairs_1 (by unfold InR; decide) ?_
  have o1 := h.1
  replace h := h.2
  obtain ⟨I2, eI2⟩ : ∃ z : MI, z = up2 I x0 0 0 := ⟨_, rfl⟩
  replace h := h I2 eI2
  refine e_putI dX10_stairs_2 flX10_65 rfl (Or.inl rfl) o1 (eqI eI2 ?_)
  refine e_aload_n 0 dX10_stairs_5 rfl ?_
  refine e_iload_n 1 dX10_stairs_6 rfl ?_
  refine e_iload_n 2 dX10_stairs_7 rfl ?_
  have o2 := h.1
  replace h := h.2
  refine i_VI (μ' := MX10_canAsk) (ci := 9) (r := x0) (as := [vI x1, vI x2]) (st := []) rfl dX10_stairs_8 mOKX10_canAsk ⟨mlX10_322, imX10_canAsk, seX10_canAsk⟩ (by decide) (Nat.le_of_ble_eq_true rfl) rfl (Nat.le_of_ble_eq_true rfl) ⟨by decide, rfl⟩ o1 (sX10_canAsk o2 ?_)
  refine e_if_eq (tgt := 30) dX10_stairs_11 (by decide) (fun c => ?_) (fun c => ?_)
  · replace h := h.1 c
    refine e_iconst dX10_stairs_30 (by unfold InR; decide) ?_
    exact e_ireturn dX10_stairs_31 rfl ⟨_, rfl, h⟩
  · replace h := h.2 c
    refine e_aload_n 0 dX10_stairs_14 rfl ?_
    refine e_iload_n 3 dX10_stairs_15 rfl ?_
    refine e_i2l dX10_stairs_16 ?_
    refine e_ldc2 (x := (-1)) dX10_stairs_17 cnX10_335 (by unfold InL; decide) ?_
    refine e_iload_n 2 dX10_stairs_20 rfl ?_
    refine e_i2l dX10_stairs_21 ?_
    refine e_lconst (x := 1) dX10_stairs_22 ⟨by decide +kernel, by unfold InL; decide⟩ ?_
    refine e_lsub dX10_stairs_23 ?_
    refine i_VI (μ' := MX10_isIn) (ci := 9) (r := x0) (as := [vL x3, vL (-1), vL (w64 (x2 - 1))]) (st := []) rfl dX10_stairs_24 mOKX10_isIn ⟨mlX10_106, imX10_isIn, seX10_isIn⟩ (by decide) (Nat.le_of_ble_eq_true rfl) rfl (Nat.le_of_ble_eq_true rfl) ⟨by decide, rfl⟩ o1 (sX10_isIn ?_)
    refine e_if_ne (tgt := 32) dX10_stairs_27 (by decide) (fun c => ?_) (fun c => ?_)
    · replace h := h.1 c
      refine e_aload_n 0 dX10_stairs_32 rfl ?_
      refine e_iload_n 1 dX10_stairs_33 rfl ?_
      refine e_iload_n 2 dX10_stairs_34 rfl ?_
      refine i_VV (μ' := MX10_laysIdeal) (ci := 9) (r := x0) (as := [vI x1, vI x2]) (st := []) rfl dX10_stairs_35 mOKX10_laysIdeal ⟨mlX10_325, imX10_laysIdeal, seX10_laysIdeal⟩ (by decide) (Nat.le_of_ble_eq_true rfl) rfl (Nat.le_of_ble_eq_true rfl) ⟨by decide, rfl⟩ o1 (CV.mono h ?_)
      clear h
      intro S35 I35 R35 h
      refine e_iload_n 3 dX10_stairs_38 rfl ?_
      refine e_iconst dX10_stairs_39 (by unfold InR; decide) ?_
      refine e_icmp_ne (tgt := 50) dX10_stairs_40 (by decide) (fun c => ?_) (fun c => ?_)
      · replace h := h.1 c
        refine e_iconst dX10_stairs_50 (by unfold InR; decide) ?_
        refine e_istore (ls2 := [(4, vI 0), (0, vR x0), (1, vI x1), (2, vI x2), (3, vI x3)]) dX10_stairs_51 (by decide) rfl ?_
        refine e_iconst dX10_stairs_53 (by unfold InR; decide) ?_
        refine e_istore (ls2 := [(5, vI 0), (4, vI 0), (0, vR x0), (1, vI x1), (2, vI x2), (3, vI x3)]) dX10_stairs_54 (by decide) rfl ?_
        exact e_sub (ls2 := [(0, vR x0), (3, vI x3), (4, vI 0), (5, vI 0)]) [2, 5, 1, 0] rfl h
      · replace h := h.2 c
        refine e_aload_n 0 dX10_stairs_43 rfl ?_
        refine e_iconst dX10_stairs_44 (by unfold InR; decide) ?_
        refine e_iconst dX10_stairs_45 (by unfold InR; decide) ?_
        have o3 := h.1
        replace h := h.2
        refine i_VI (μ' := MX10_found) (ci := 9) (r := x0) (as := [vI 0, vI (-1)]) (st := []) rfl dX10_stairs_46 mOKX10_found ⟨mlX10_328, imX10_found, seX10_found⟩ (by decide) (Nat.le_of_ble_eq_true rfl) rfl (Nat.le_of_ble_eq_true rfl) ⟨by decide, rfl⟩ o3 (CI.mono h ?_)
        clear h
        intro S46 I46 R46 x46_ h
        exact e_ireturn dX10_stairs_49 rfl ⟨_, rfl, h⟩
    · replace h := h.2 c
      refine e_iconst dX10_stairs_30 (by unfold InR; decide) ?_
      exact e_ireturn dX10_stairs_31 rfl ⟨_, rfl, h⟩
set_option maxRecDepth 100000 in
set_option maxHeartbeats 4000000 in
theorem bX10_stairs_56 {G : Gl} {S : Sh} {I : MI} {R : MR} {Q : Sh → MI → MR → Int → Prop} {x0 : Nat} {x3 : Int} {x4 : Int} {x5 : Int} (h : (sT S x0 = 10 ∧ (((I x0 28) ≤ x5 → Q S I R x4) ∧ (¬ ((I x0 28) ≤ x5) → (sT S (R x0 30) = 23 ∧ (((0 : Int) ≤ x5 ∧ x5 < (sL S (R x0 30) : Int)) ∧ (((I (R x0 30) (Int.toNat x5)) ≠ 0 → LX10_stairs_56 G x0 x3 x4 (w32 (x5 + 1)) S I R Q) ∧ (¬ ((I (R x0 30) (Int.toNat x5)) ≠ 0) → ((pX10_degreeAt S I R x0 x5) ∧ (((vX10_degreeAt I R x0 x5) ≠ x3 → LX10_stairs_56 G x0 x3 x4 (w32 (x5 + 1)) S I R Q) ∧ (¬ ((vX10_degreeAt I R x0 x5) ≠ x3) → LX10_stairs_56 G x0 x3 (w32 (x4 + 1)) (w32 (x5 + 1)) S I R Q))))))))))) : LX10_stairs_56 G x0 x3 x4 x5 S I R Q := by
  show E G MX10_stairs 56 [(0, vR x0), (3, vI x3), (4, vI x4), (5, vI x5)] [] S I R (qI Q)
  refine e_iload 3 dX10_stairs_56 rfl ?_
  refine e_aload_n 0 dX10_stairs_58 rfl ?_
  have o4 := h.1
  replace h := h.2
  refine e_getI dX10_stairs_59 flX10_283 rfl o4 ?_
  refine e_icmp_ge (tgt := 97) dX10_stairs_62 (by decide) (fun c => ?_) (fun c => ?_)
  · replace h := h.1 c
    refine e_iload 2 dX10_stairs_97 rfl ?_
    exact e_ireturn dX10_stairs_99 rfl ⟨_, rfl, h⟩
  · replace h := h.2 c
    refine e_aload_n 0 dX10_stairs_65 rfl ?_
    refine e_getR dX10_stairs_66 flX10_58 rfl o4 ?_
    refine e_iload 3 dX10_stairs_69 rfl ?_
    have o5 := h.1
    replace h := h.2
    have o6 := h.1
    replace h := h.2
    refine e_zald dX10_stairs_71 o5 o6 ?_
    refine e_if_ne (tgt := 91) dX10_stairs_72 (by decide) (fun c => ?_) (fun c => ?_)
    · replace h := h.1 c
      refine e_iinc (ls2 := [(5, vI (w32 (x5 + 1))), (0, vR x0), (3, vI x3), (4, vI x4)]) 3 dX10_stairs_91 rfl (by decide) rfl ?_
      refine e_goto (tgt := 56) dX10_stairs_94 (by decide) ?_
      exact e_sub (ls2 := [(0, vR x0), (3, vI x3), (4, vI x4), (5, vI (w32 (x5 + 1)))]) [1, 2, 3, 0] rfl h
    · replace h := h.2 c
      refine e_aload_n 0 dX10_stairs_75 rfl ?_
      refine e_iload 3 dX10_stairs_76 rfl ?_
      have o7 := h.1
      replace h := h.2
      refine i_VI (μ' := MX10_degreeAt) (ci := 9) (r := x0) (as := [vI x5]) (st := []) rfl dX10_stairs_78 mOKX10_degreeAt ⟨mlX10_295, imX10_degreeAt, seX10_degreeAt⟩ (by decide) (Nat.le_of_ble_eq_true rfl) rfl (Nat.le_of_ble_eq_true rfl) ⟨by decide, rfl⟩ o4 (sX10_degreeAt o7 ?_)
      refine e_iload_n 1 dX10_stairs_81 rfl ?_
      refine e_icmp_ne (tgt := 91) dX10_stairs_82 (by decide) (fun c => ?_) (fun c => ?_)
      · replace h := h.1 c
        refine e_iinc (ls2 := [(5, vI (w32 (x5 + 1))), (0, vR x0), (3, vI x3), (4, vI x4)]) 3 dX10_stairs_91 rfl (by decide) rfl ?_
        refine e_goto (tgt := 56) dX10_stairs_94 (by decide) ?_
        exact e_sub (ls2 := [(0, vR x0), (3, vI x3), (4, vI x4), (5, vI (w32 (x5 + 1)))]) [1, 2, 3, 0] rfl h
      · replace h := h.2 c
        refine e_iload 2 dX10_stairs_85 rfl ?_
        refine e_iconst dX10_stairs_87 (by unfold InR; decide) ?_
        refine e_iadd dX10_stairs_88 ?_
        refine e_istore (ls2 := [(4, vI (w32 (x4 + 1))), (0, vR x0), (3, vI x3), (5, vI x5)]) dX10_stairs_89 (by decide) rfl ?_
        refine e_iinc (ls2 := [(5, vI (w32 (x5 + 1))), (4, vI (w32 (x4 + 1))), (0, vR x0), (3, vI x3)]) 3 dX10_stairs_91 rfl (by decide) rfl ?_
        refine e_goto (tgt := 56) dX10_stairs_94 (by decide) ?_
        exact e_sub (ls2 := [(0, vR x0), (3, vI x3), (4, vI (w32 (x4 + 1))), (5, vI (w32 (x5 + 1)))]) [2, 3, 1, 0] rfl h

set_option maxRecDepth 100000 in
set_option maxHeartbeats 4000000 in
theorem bX10_stair {G : Gl} {S : Sh} {I : MI} {R : MR} {Q : Sh → MI → MR → Int → Prop} {x0 : Nat} {x1 : Int} {x2 : Int} {x3 : Int} {x4 : Int} (h : (sT S x0 = 10 ∧ (∀ I2, I2 = up2 I x0 0 0 → ((pX10_canAsk S x0 x1 x2) ∧ (((vX10_canAsk I2 x0 x1 x2) = 0 → Q S I2 R (-1)) ∧ (¬ ((vX10_canAsk I2 x0 x1 x2) = 0) → ((0 ≤ x3 → (CV G MX10_laysIdeal [vR x0, vI x1, vI x2] S I2 R (fun S23 I23 R23 => (sT S23 x0 = 10 ∧ (CI G MX10_found [vR x0, vI 0, vI x3] S23 I23 R23 (fun S30 I30 R30 x30_ => (sT S30 x0 = 10 ∧ ((pX10_ofMonomial S30 I30 R30 x0 x30_ x4) ∧ Q S30 I30 R30 (vX10_ofMonomial I30 R30 x0 x30_ x4))))))))) ∧ (¬ (0 ≤ x3) → Q S I2 R (-1))))))))) : CI G MX10_stair [vR x0, vI x1, vI x2, vI x3, vI x4] S I R Q := by
  show E G MX10_stair 0 [(0, vR x0), (1, vI x1), (2, vI x2), (3, vI x3), (4, vI x4)] [] S I R (qI Q)
  refine e_aload_n 0 dX10_stair_0 rfl ?_
  refine e_iconst dX10_stair_1 (by unfold InR; decide) ?_
  have o1 := h.1
  replace h := h.2
  obtain ⟨I2, eI2⟩ : ∃ z : MI, z = up2 I x0 0 0 := ⟨_, rfl⟩
  replace h := h I2 eI2
  refine e_putI dX10_stair_2 flX10_65 rfl (Or.inl rfl) o1 (eqI eI2 ?_)
  refine e_aload_n 0 dX10_stair_5 rfl ?_
  refine e_iload_n 1 dX10_stair_6 rfl ?_
  refine e_iload_n 2 dX10_stair_7 rfl ?_
  have o2 := h.1
  replace h := h.2
  refine i_VI (μ' := MX10_canAsk) (ci := 9) (r := x0) (as := [vI x1, vI x2]) (st := []) rfl dX10_stair_8 mOKX10_canAsk ⟨mlX10_322, imX10_canAsk, seX10_canAsk⟩ (by decide) (Nat.le_of_ble_eq_true rfl) rfl (Nat.le_of_ble_eq_true rfl) ⟨by decide, rfl⟩ o1 (sX10_canAsk o2 ?_)
  refine e_if_eq (tgt := 18) dX10_stair_11 (by decide) (fun c => ?_) (fun c => ?_)
  · replace h := h.1 c
    refine e_iconst dX10_stair_18 (by unfold InR; decide) ?_
    exact e_ireturn dX10_stair_19 rfl ⟨_, rfl, h⟩
  · replace h := h.2 c
    refine e_iload_n 3 dX10_stair_14 rfl ?_
    refine e_if_ge (tgt := 20) dX10_stair_15 (by decide) (fun c => ?_) (fun c => ?_)
    · replace h := h.1 c
      refine e_aload_n 0 dX10_stair_20 rfl ?_
      refine e_iload_n 1 dX10_stair_21 rfl ?_
      refine e_iload_n 2 dX10_stair_22 rfl ?_
      refine i_VV (μ' := MX10_laysIdeal) (ci := 9) (r := x0) (as := [vI x1, vI x2]) (st := []) rfl dX10_stair_23 mOKX10_laysIdeal ⟨mlX10_325, imX10_laysIdeal, seX10_laysIdeal⟩ (by decide) (Nat.le_of_ble_eq_true rfl) rfl (Nat.le_of_ble_eq_true rfl) ⟨by decide, rfl⟩ o1 (CV.mono h ?_)
      clear h
      intro S23 I23 R23 h
      refine e_aload_n 0 dX10_stair_26 rfl ?_
      refine e_aload_n 0 dX10_stair_27 rfl ?_
      refine e_iconst dX10_stair_28 (by unfold InR; decide) ?_
      refine e_iload_n 3 dX10_stair_29 rfl ?_
      have o3 := h.1
      replace h := h.2
      refine i_VI (μ' := MX10_found) (ci := 9) (r := x0) (as := [vI 0, vI x3]) (st := [vR x0]) rfl dX10_stair_30 mOKX10_found ⟨mlX10_328, imX10_found, seX10_found⟩ (by decide) (Nat.le_of_ble_eq_true rfl) rfl (Nat.le_of_ble_eq_true rfl) ⟨by decide, rfl⟩ o3 (CI.mono h ?_)
      clear h
      intro S30 I30 R30 x30_ h
      refine e_iload 4 dX10_stair_33 rfl ?_
      have o4 := h.1
      replace h := h.2
      have o5 := h.1
      replace h := h.2
      refine i_VI (μ' := MX10_ofMonomial) (ci := 9) (r := x0) (as := [vI x30_, vI x4]) (st := []) rfl dX10_stair_35 mOKX10_ofMonomial ⟨mlX10_332, imX10_ofMonomial, seX10_ofMonomial⟩ (by decide) (Nat.le_of_ble_eq_true rfl) rfl (Nat.le_of_ble_eq_true rfl) ⟨by decide, rfl⟩ o4 (sX10_ofMonomial o5 ?_)
      exact e_ireturn dX10_stair_38 rfl ⟨_, rfl, h⟩
    · replace h := h.2 c
      refine e_iconst dX10_stair_18 (by unfold InR; decide) ?_
      exact e_ireturn dX10_stair_19 rfl ⟨_, rfl, h⟩

def LX10_rest_59 (G : Gl) (x0 : Nat) (x4 : Int) (x5 : Int) (S : Sh) (I : MI) (R : MR) (Q : Sh → MI → MR → Int → Prop) : Prop := E G MX10_rest 59 [(0, vR x0), (4, vI x4), (5, vI x5)] [] S I R (qI Q)
set_option maxRecDepth 100000 in
set_option maxHeartbeats 4000000 in
theorem bX10_rest {G : Gl} {S : Sh} {I : MI} {R : MR} {Q : Sh → MI → MR → Int → Prop} {x0 : Nat} {x1 : Int} {x2 : Int} {x3 : Int} {x4 : Int} (h : (sT S x0 = 10 ∧ (∀ I2, I2 = up2 I x0 0 0 → ((pX10_isSlot S x0 x1) ∧ (((vX10_isSlot x0 x1) = 0 → Q S I2 R (-1)) ∧ (¬ ((vX10_isSlot x0 x1) = 0) → ((pX10_isSlot S x0 x4) ∧ (((vX10_isSlot x0 x4) = 0 → Q S I2 R (-1)) ∧ (¬ ((vX10_isSlot x0 x4) = 0) → ((pX10_canAsk S x0 x2 x3) ∧ (((vX10_canAsk I2 x0 x2 x3) ≠ 0 → (CV G MX10_laysIdeal [vR x0, vI x2, vI x3] S I2 R (fun S36 I36 R36 => (sT S36 x0 = 10 ∧ (CV G MX10_laysRow [vR x0, vI x1, vI 0, vI 0, vI 0] S36 I36 R36 (fun S44 I44 R44 => (sT S44 x0 = 10 ∧ (CV G MX10_reduces [vR x0] S44 I44 R44 (fun S48 I48 R48 => (sT S48 x0 = 10 ∧ (∀ I53, I53 = up2 I48 x0 9 0 → LX10_rest_59 G x0 x4 0 S48 I53 R48 Q))))))))))) ∧ (¬ ((vX10_canAsk I2 x0 x2 x3) ≠ 0) → Q S I2 R (-1))))))))))))) : CI G MX10_rest [vR x0, vI x1, vI x2, vI x3, vI x4] S I R Q := by
  show E G MX10_rest 0 [(0, vR x0), (1, vI x1), (2, vI x2), (3, vI x3), (4, vI x4)] [] S I R (qI Q)
  refine e_aload_n 0 dX10_rest_0 rfl ?_
  refine e_iconst dX10_rest_1 (by unfold InR; decide) ?_
  have o1 := h.1
  replace h := h.2
  obtain ⟨I2, eI2⟩ : ∃ z : MI, z = up2 I x0 0 0 := ⟨_, rfl⟩
  replace h := h I2 eI2
  refine e_putI dX10_rest_2 flX10_65 rfl (Or.inl rfl) o1 (eqI eI2 ?_)
  refine e_aload_n 0 dX10_rest_5 rfl ?_
  refine e_iload_n 1 dX10_rest_6 rfl ?_
  have o2 := h.1
  replace h := h.2
  refine i_VI (μ' := MX10_isSlot) (ci := 9) (r := x0) (as := [vI x1]) (st := []) rfl dX10_rest_7 mOKX10_isSlot ⟨mlX10_188, imX10_isSlot, seX10_isSlot⟩ (by decide) (Nat.le_of_ble_eq_true rfl) rfl (Nat.le_of_ble_eq_true rfl) ⟨by decide, rfl⟩ o1 (sX10_isSlot o2 ?_)
  refine e_if_eq (tgt := 31) dX10_rest_10 (by decide) (fun c => ?_) (fun c => ?_)
  · replace h := h.1 c
    refine e_iconst dX10_rest_31 (by unfold InR; decide) ?_
    exact e_ireturn dX10_rest_32 rfl ⟨_, rfl, h⟩
  · replace h := h.2 c
    refine e_aload_n 0 dX10_rest_13 rfl ?_
    refine e_iload 4 dX10_rest_14 rfl ?_
    have o3 := h.1
    replace h := h.2
    refine i_VI (μ' := MX10_isSlot) (ci := 9) (r := x0) (as := [vI x4]) (st := []) rfl dX10_rest_16 mOKX10_isSlot ⟨mlX10_188, imX10_isSlot, seX10_isSlot⟩ (by decide) (Nat.le_of_ble_eq_true rfl) rfl (Nat.le_of_ble_eq_true rfl) ⟨by decide, rfl⟩ o1 (sX10_isSlot o3 ?_)
    refine e_if_eq (tgt := 31) dX10_rest_19 (by decide) (fun c => ?_) (fun c => ?_)
    · replace h := h.1 c
      refine e_iconst dX10_rest_31 (by unfold InR; decide) ?_
      exact e_ireturn dX10_rest_32 rfl ⟨_, rfl, h⟩
    · replace h := h.2 c
      refine e_aload_n 0 dX10_rest_22 rfl ?_
      refine e_iload_n 2 dX10_rest_23 rfl ?_
      refine e_iload_n 3 dX10_rest_24 rfl ?_
      have o4 := h.1
      replace h := h.2
      refine i_VI (μ' := MX10_canAsk) (ci := 9) (r := x0) (as := [vI x2, vI x3]) (st := []) rfl dX10_rest_25 mOKX10_canAsk ⟨mlX10_322, imX10_canAsk, seX10_canAsk⟩ (by decide) (Nat.le_of_ble_eq_true rfl) rfl (Nat.le_of_ble_eq_true rfl) ⟨by decide, rfl⟩ o1 (sX10_canAsk o4 ?_)
      refine e_if_ne (tgt := 33) dX10_rest_28 (by decide) (fun c => ?_) (fun c => ?_)
      · replace h := h.1 c
        refine e_aload_n 0 dX10_rest_33 rfl ?_
        refine e_iload_n 2 dX10_rest_34 rfl ?_
        refine e_iload_n 3 dX10_rest_35 rfl ?_
        refine i_VV (μ' := MX10_laysIdeal) (ci := 9) (r := x0) (as := [vI x2, vI x3]) (st := []) rfl dX10_rest_36 mOKX10_laysIdeal ⟨mlX10_325, imX10_laysIdeal, seX10_laysIdeal⟩ (by decide) (Nat.le_of_ble_eq_true rfl) rfl (Nat.le_of_ble_eq_true rfl) ⟨by decide, rfl⟩ o1 (CV.mono h ?_)
        clear h
        intro S36 I36 R36 h
        refine e_aload_n 0 dX10_rest_39 rfl ?_
        refine e_iload_n 1 dX10_rest_40 rfl ?_
        refine e_iconst dX10_rest_41 (by unfold InR; decide) ?_
        refine e_iconst dX10_rest_42 (by unfold InR; decide) ?_
        refine e_iconst dX10_rest_43 (by unfold InR; decide) ?_
        have o5 := h.1
        replace h := h.2
        refine i_VV (μ' := MX10_laysRow) (ci := 9) (r := x0) (as := [vI x1, vI 0, vI 0, vI 0]) (st := []) rfl dX10_rest_44 mOKX10_laysRow ⟨mlX10_298, imX10_laysRow, seX10_laysRow⟩ (by decide) (Nat.le_of_ble_eq_true rfl) rfl (Nat.le_of_ble_eq_true rfl) ⟨by decide, rfl⟩ o5 (CV.mono h ?_)
        clear h
        intro S44 I44 R44 h
        refine e_aload_n 0 dX10_rest_47 rfl ?_
        have o6 := h.1
        replace h := h.2
        refine i_VV (μ' := MX10_reduces) (ci := 9) (r := x0) (as := []) (st := []) rfl dX10_rest_48 mOKX10_reduces ⟨mlX10_292, imX10_reduces, seX10_reduces⟩ (by decide) (Nat.le_of_ble_eq_true rfl) rfl (Nat.le_of_ble_eq_true rfl) ⟨by decide, rfl⟩ o6 (CV.mono h ?_)
        clear h
        intro S48 I48 R48 h
        refine e_aload_n 0 dX10_rest_51 rfl ?_
        refine e_iconst dX10_rest_52 (by unfold InR; decide) ?_
        have o7 := h.1
        replace h := h.2
        obtain ⟨I53, eI53⟩ : ∃ z : MI, z = up2 I48 x0 9 0 := ⟨_, rfl⟩
        replace h := h I53 eI53
        refine e_putI dX10_rest_53 flX10_93 rfl (Or.inl rfl) o7 (eqI eI53 ?_)
        refine e_iconst dX10_rest_56 (by unfold InR; decide) ?_
        refine e_istore (ls2 := [(5, vI 0), (0, vR x0), (1, vI x1), (2, vI x2), (3, vI x3), (4, vI x4)]) dX10_rest_57 (by decide) rfl ?_
        exact e_sub (ls2 := [(0, vR x0), (4, vI x4), (5, vI 0)]) [1, 5, 0] rfl h
      · replace h := h.2 c
        refine e_iconst dX10_rest_31 (by unfold InR; decide) ?_
        exact e_ireturn dX10_rest_32 rfl ⟨_, rfl, h⟩
set_option maxRecDepth 100000 in
set_option maxHeartbeats 4000000 in
theorem bX10_rest_59 {G : Gl} {S : Sh} {I : MI} {R : MR} {Q : Sh → MI → MR → Int → Prop} {x0 : Nat} {x4 : Int} {x5 : Int} (h : (sT S x0 = 10 ∧ (((I x0 28) ≤ x5 → (CI G MX10_takes [vR x0, vI x4] S I R (fun S119 I119 R119 x119_ => ((x119_ = 0 → Q S119 I119 R119 (-1)) ∧ (¬ (x119_ = 0) → (sT S119 x0 = 10 ∧ (sT S119 (R119 x0 4) = 21 ∧ (((0 : Int) ≤ x4 ∧ x4 < (sL S119 (R119 x0 4) : Int)) ∧ Q S119 I119 R119 (I119 (R119 x0 4) (Int.toNat x4)))))))))) ∧ (¬ ((I x0 28) ≤ x5) → (sT S (R x0 31) = 21 ∧ (((0 : Int) ≤ x5 ∧ x5 < (sL S (R x0 31) : Int)) ∧ (sT S (R x0 27) = 21 ∧ (((0 : Int) ≤ (w32 (3 * x5)) ∧ (w32 (3 * x5)) < (sL S (R x0 27) : Int)) ∧ (((0 : Int) ≤ (w32 ((w32 (3 * x5)) + 1)) ∧ (w32 ((w32 (3 * x5)) + 1)) < (sL S (R x0 27) : Int)) ∧ (((0 : Int) ≤ (w32 ((w32 (3 * x5)) + 2)) ∧ (w32 ((w32 (3 * x5)) + 2)) < (sL S (R x0 27) : Int)) ∧ (CV G MX10_heaps [vR x0, vI (I (R x0 31) (Int.toNat x5)), vI (I (R x0 27) (Int.toNat (w32 (3 * x5)))), vI (I (R x0 27) (Int.toNat (w32 ((w32 (3 * x5)) + 1)))), vI (I (R x0 27) (Int.toNat (w32 ((w32 (3 * x5)) + 2))))] S I R (fun S107 I107 R107 => LX10_rest_59 G x0 x4 (w32 (x5 + 1)) S107 I107 R107 Q)))))))))))) : LX10_rest_59 G x0 x4 x5 S I R Q := by
  show E G MX10_rest 59 [(0, vR x0), (4, vI x4), (5, vI x5)] [] S I R (qI Q)
  refine e_iload 2 dX10_rest_59 rfl ?_
  refine e_aload_n 0 dX10_rest_61 rfl ?_
  have o8 := h.1
  replace h := h.2
  refine e_getI dX10_rest_62 flX10_283 rfl o8 ?_
  refine e_icmp_ge (tgt := 116) dX10_rest_65 (by decide) (fun c => ?_) (fun c => ?_)
  · replace h := h.1 c
    refine e_aload_n 0 dX10_rest_116 rfl ?_
    refine e_iload 1 dX10_rest_117 rfl ?_
    refine i_VI (μ' := MX10_takes) (ci := 9) (r := x0) (as := [vI x4]) (st := []) rfl dX10_rest_119 mOKX10_takes ⟨mlX10_128, imX10_takes, seX10_takes⟩ (by decide) (Nat.le_of_ble_eq_true rfl) rfl (Nat.le_of_ble_eq_true rfl) ⟨by decide, rfl⟩ o8 (CI.mono h ?_)
    clear h
    intro S119 I119 R119 x119_ h
    refine e_if_eq (tgt := 135) dX10_rest_122 (by decide) (fun c => ?_) (fun c => ?_)
    · replace h := h.1 c
      refine e_iconst dX10_rest_135 (by unfold InR; decide) ?_
      exact e_ireturn dX10_rest_136 rfl ⟨_, rfl, h⟩
    · replace h := h.2 c
      refine e_aload_n 0 dX10_rest_125 rfl ?_
      have o9 := h.1
      replace h := h.2
      refine e_getR dX10_rest_126 flX10_20 rfl o9 ?_
      refine e_iload 1 dX10_rest_129 rfl ?_
      have o10 := h.1
      replace h := h.2
      have o11 := h.1
      replace h := h.2
      refine e_iald dX10_rest_131 o10 o11 ?_
      refine e_goto (tgt := 136) dX10_rest_132 (by decide) ?_
      exact e_ireturn dX10_rest_136 rfl ⟨_, rfl, h⟩
  · replace h := h.2 c
    refine e_aload_n 0 dX10_rest_68 rfl ?_
    refine e_aload_n 0 dX10_rest_69 rfl ?_
    refine e_getR dX10_rest_70 flX10_62 rfl o8 ?_
    refine e_iload 2 dX10_rest_73 rfl ?_
    have o12 := h.1
    replace h := h.2
    have o13 := h.1
    replace h := h.2
    refine e_iald dX10_rest_75 o12 o13 ?_
    refine e_aload_n 0 dX10_rest_76 rfl ?_
    refine e_getR dX10_rest_77 flX10_52 rfl o8 ?_
    refine e_iconst dX10_rest_80 (by unfold InR; decide) ?_
    refine e_iload 2 dX10_rest_81 rfl ?_
    refine e_imul dX10_rest_83 ?_
    have o14 := h.1
    replace h := h.2
    have o15 := h.1
    replace h := h.2
    refine e_iald dX10_rest_84 o14 o15 ?_
    refine e_aload_n 0 dX10_rest_85 rfl ?_
    refine e_getR dX10_rest_86 flX10_52 rfl o8 ?_
    refine e_iconst dX10_rest_89 (by unfold InR; decide) ?_
    refine e_iload 2 dX10_rest_90 rfl ?_
    refine e_imul dX10_rest_92 ?_
    refine e_iconst dX10_rest_93 (by unfold InR; decide) ?_
    refine e_iadd dX10_rest_94 ?_
    have o16 := h.1
    replace h := h.2
    refine e_iald dX10_rest_95 o14 o16 ?_
    refine e_aload_n 0 dX10_rest_96 rfl ?_
    refine e_getR dX10_rest_97 flX10_52 rfl o8 ?_
    refine e_iconst dX10_rest_100 (by unfold InR; decide) ?_
    refine e_iload 2 dX10_rest_101 rfl ?_
    refine e_imul dX10_rest_103 ?_
    refine e_iconst dX10_rest_104 (by unfold InR; decide) ?_
    refine e_iadd dX10_rest_105 ?_
    have o17 := h.1
    replace h := h.2
    refine e_iald dX10_rest_106 o14 o17 ?_
    refine i_VV (μ' := MX10_heaps) (ci := 9) (r := x0) (as := [vI (I (R x0 31) (Int.toNat x5)), vI (I (R x0 27) (Int.toNat (w32 (3 * x5)))), vI (I (R x0 27) (Int.toNat (w32 ((w32 (3 * x5)) + 1)))), vI (I (R x0 27) (Int.toNat (w32 ((w32 (3 * x5)) + 2))))]) (st := []) rfl dX10_rest_107 mOKX10_heaps ⟨mlX10_100, imX10_heaps, seX10_heaps⟩ (by decide) (Nat.le_of_ble_eq_true rfl) rfl (Nat.le_of_ble_eq_true rfl) ⟨by decide, rfl⟩ o8 (CV.mono h ?_)
    clear h
    intro S107 I107 R107 h
    refine e_iinc (ls2 := [(5, vI (w32 (x5 + 1))), (0, vR x0), (4, vI x4)]) 2 dX10_rest_110 rfl (by decide) rfl ?_
    refine e_goto (tgt := 59) dX10_rest_113 (by decide) ?_
    exact e_sub (ls2 := [(0, vR x0), (4, vI x4), (5, vI (w32 (x5 + 1)))]) [1, 2, 0] rfl h

def LX10_greatestWeight_9 (G : Gl) (x0 : Nat) (x1 : Int) (x2 : Int) (S : Sh) (I : MI) (R : MR) (Q : Sh → MI → MR → Int → Prop) : Prop := E G MX10_greatestWeight 9 [(0, vR x0), (1, vI x1), (2, vI x2)] [] S I R (qI Q)
set_option maxRecDepth 100000 in
set_option maxHeartbeats 4000000 in
theorem bX10_greatestWeight {G : Gl} {S : Sh} {I : MI} {R : MR} {Q : Sh → MI → MR → Int → Prop} {x0 : Nat} (h : (sT S x0 = 10 ∧ (sT S (R x0 3) = 21 ∧ (((0 : Int) ≤ 0 ∧ 0 < (sL S (R x0 3) : Int)) ∧ LX10_greatestWeight_9 G x0 (I (R x0 3) (Int.toNat 0)) 1 S I R Q)))) : CI G MX10_greatestWeight [vR x0] S I R Q := by
  show E G MX10_greatestWeight 0 [(0, vR x0)] [] S I R (qI Q)
  refine e_aload_n 0 dX10_greatestWeight_0 rfl ?_
  have o1 := h.1
  replace h := h.2
  refine e_getR dX10_greatestWeight_1 flX10_16 rfl o1 ?_
  refine e_iconst dX10_greatestWeight_4 (by unfold InR; decide) ?_
  have o2 := h.1
  replace h := h.2
  have o3 := h.1
  replace h := h.2
  refine e_iald dX10_greatestWeight_5 o2 o3 ?_
  refine e_istore_n (ls2 := [(1, vI (I (R x0 3) (Int.toNat 0))), (0, vR x0)]) dX10_greatestWeight_6 (by decide) rfl ?_
  refine e_iconst dX10_greatestWeight_7 (by unfold InR; decide) ?_
  refine e_istore_n (ls2 := [(2, vI 1), (1, vI (I (R x0 3) (Int.toNat 0))), (0, vR x0)]) dX10_greatestWeight_8 (by decide) rfl ?_
  exact e_sub (ls2 := [(0, vR x0), (1, vI (I (R x0 3) (Int.toNat 0))), (2, vI 1)]) [2, 1, 0] rfl h
set_option maxRecDepth 100000 in
set_option maxHeartbeats 4000000 in
theorem bX10_greatestWeight_9 {G : Gl} {S : Sh} {I : MI} {R : MR} {Q : Sh → MI → MR → Int → Prop} {x0 : Nat} {x1 : Int} {x2 : Int} (h : (sT S x0 = 10 ∧ (((I x0 1) ≤ x2 → Q S I R x1) ∧ (¬ ((I x0 1) ≤ x2) → (sT S (R x0 3) = 21 ∧ (((0 : Int) ≤ x2 ∧ x2 < (sL S (R x0 3) : Int)) ∧ (((I (R x0 3) (Int.toNat x2)) ≤ x1 → LX10_greatestWeight_9 G x0 x1 (w32 (x2 + 1)) S I R Q) ∧ (¬ ((I (R x0 3) (Int.toNat x2)) ≤ x1) → LX10_greatestWeight_9 G x0 (I (R x0 3) (Int.toNat x2)) (w32 (x2 + 1)) S I R Q)))))))) : LX10_greatestWeight_9 G x0 x1 x2 S I R Q := by
  show E G MX10_greatestWeight 9 [(0, vR x0), (1, vI x1), (2, vI x2)] [] S I R (qI Q)
  refine e_iload_n 2 dX10_greatestWeight_9 rfl ?_
  refine e_aload_n 0 dX10_greatestWeight_10 rfl ?_
  have o4 := h.1
  replace h := h.2
  refine e_getI dX10_greatestWeight_11 flX10_7 rfl o4 ?_
  refine e_icmp_ge (tgt := 44) dX10_greatestWeight_14 (by decide) (fun c => ?_) (fun c => ?_)
  · replace h := h.1 c
    refine e_iload_n 1 dX10_greatestWeight_44 rfl ?_
    exact e_ireturn dX10_greatestWeight_45 rfl ⟨_, rfl, h⟩
  · replace h := h.2 c
    refine e_aload_n 0 dX10_greatestWeight_17 rfl ?_
    refine e_getR dX10_greatestWeight_18 flX10_16 rfl o4 ?_
    refine e_iload_n 2 dX10_greatestWeight_21 rfl ?_
    have o5 := h.1
    replace h := h.2
    have o6 := h.1
    replace h := h.2
    refine e_iald dX10_greatestWeight_22 o5 o6 ?_
    refine e_iload_n 1 dX10_greatestWeight_23 rfl ?_
    refine e_icmp_le (tgt := 36) dX10_greatestWeight_24 (by decide) (fun c => ?_) (fun c => ?_)
    · replace h := h.1 c
      refine e_iload_n 1 dX10_greatestWeight_36 rfl ?_
      refine e_istore_n (ls2 := [(1, vI x1), (0, vR x0), (2, vI x2)]) dX10_greatestWeight_37 (by decide) rfl ?_
      refine e_iinc (ls2 := [(2, vI (w32 (x2 + 1))), (1, vI x1), (0, vR x0)]) 2 dX10_greatestWeight_38 rfl (by decide) rfl ?_
      refine e_goto (tgt := 9) dX10_greatestWeight_41 (by decide) ?_
      exact e_sub (ls2 := [(0, vR x0), (1, vI x1), (2, vI (w32 (x2 + 1)))]) [2, 1, 0] rfl h
    · replace h := h.2 c
      refine e_aload_n 0 dX10_greatestWeight_27 rfl ?_
      refine e_getR dX10_greatestWeight_28 flX10_16 rfl o4 ?_
      refine e_iload_n 2 dX10_greatestWeight_31 rfl ?_
      refine e_iald dX10_greatestWeight_32 o5 o6 ?_
      refine e_goto (tgt := 37) dX10_greatestWeight_33 (by decide) ?_
      refine e_istore_n (ls2 := [(1, vI (I (R x0 3) (Int.toNat x2))), (0, vR x0), (2, vI x2)]) dX10_greatestWeight_37 (by decide) rfl ?_
      refine e_iinc (ls2 := [(2, vI (w32 (x2 + 1))), (1, vI (I (R x0 3) (Int.toNat x2))), (0, vR x0)]) 2 dX10_greatestWeight_38 rfl (by decide) rfl ?_
      refine e_goto (tgt := 9) dX10_greatestWeight_41 (by decide) ?_
      exact e_sub (ls2 := [(0, vR x0), (1, vI (I (R x0 3) (Int.toNat x2))), (2, vI (w32 (x2 + 1)))]) [2, 1, 0] rfl h

def LX10_isSettled_2 (G : Gl) (x0 : Nat) (x1 : Int) (x2 : Int) (S : Sh) (I : MI) (R : MR) (Q : Sh → MI → MR → Int → Prop) : Prop := E G MX10_isSettled 2 [(0, vR x0), (1, vI x1), (2, vI x2)] [] S I R (qI Q)
set_option maxRecDepth 100000 in
set_option maxHeartbeats 4000000 in
theorem bX10_isSettled {G : Gl} {S : Sh} {I : MI} {R : MR} {Q : Sh → MI → MR → Int → Prop} {x0 : Nat} {x1 : Int} (h : LX10_isSettled_2 G x0 x1 0 S I R Q) : CI G MX10_isSettled [vR x0, vI x1] S I R Q := by
  show E G MX10_isSettled 0 [(0, vR x0), (1, vI x1)] [] S I R (qI Q)
  refine e_iconst dX10_isSettled_0 (by unfold InR; decide) ?_
  refine e_istore_n (ls2 := [(2, vI 0), (0, vR x0), (1, vI x1)]) dX10_isSettled_1 (by decide) rfl ?_
  exact e_sub (ls2 := [(0, vR x0), (1, vI x1), (2, vI 0)]) [1, 2, 0] rfl h
set_option maxRecDepth 100000 in
set_option maxHeartbeats 4000000 in
theorem bX10_isSettled_2 {G : Gl} {S : Sh} {I : MI} {R : MR} {Q : Sh → MI → MR → Int → Prop} {x0 : Nat} {x1 : Int} {x2 : Int} (h : (sT S x0 = 10 ∧ (((I x0 28) ≤ x2 → Q S I R 1) ∧ (¬ ((I x0 28) ≤ x2) → (sT S (R x0 30) = 23 ∧ (((0 : Int) ≤ x2 ∧ x2 < (sL S (R x0 30) : Int)) ∧ (((I (R x0 30) (Int.toNat x2)) ≠ 0 → LX10_isSettled_2 G x0 x1 (w32 (x2 + 1)) S I R Q) ∧ (¬ ((I (R x0 30) (Int.toNat x2)) ≠ 0) → ((pX10_degreeAt S I R x0 x2) ∧ (CI G MX10_greatestWeight [vR x0] S I R (fun S26 I26 R26 x26_ => (((vX10_degreeAt I R x0 x2) < (w32 (x1 - x26_)) → LX10_isSettled_2 G x0 x1 (w32 (x2 + 1)) S26 I26 R26 Q) ∧ (¬ ((vX10_degreeAt I R x0 x2) < (w32 (x1 - x26_))) → Q S26 I26 R26 0))))))))))))) : LX10_isSettled_2 G x0 x1 x2 S I R Q := by
  show E G MX10_isSettled 2 [(0, vR x0), (1, vI x1), (2, vI x2)] [] S I R (qI Q)
  refine e_iload_n 2 dX10_isSettled_2 rfl ?_
  refine e_aload_n 0 dX10_isSettled_3 rfl ?_
  have o1 := h.1
  replace h := h.2
  refine e_getI dX10_isSettled_4 flX10_283 rfl o1 ?_
  refine e_icmp_ge (tgt := 41) dX10_isSettled_7 (by decide) (fun c => ?_) (fun c => ?_)
  · replace h := h.1 c
    refine e_iconst dX10_isSettled_41 (by unfold InR; decide) ?_
    exact e_zreturn dX10_isSettled_42 rfl (by decide) ⟨_, rfl, h⟩
  · replace h := h.2 c
    refine e_aload_n 0 dX10_isSettled_10 rfl ?_
    refine e_getR dX10_isSettled_11 flX10_58 rfl o1 ?_
    refine e_iload_n 2 dX10_isSettled_14 rfl ?_
    have o2 := h.1
    replace h := h.2
    have o3 := h.1
    replace h := h.2
    refine e_zald dX10_isSettled_15 o2 o3 ?_
    refine e_if_ne (tgt := 35) dX10_isSettled_16 (by decide) (fun c => ?_) (fun c => ?_)
    · replace h := h.1 c
      refine e_iinc (ls2 := [(2, vI (w32 (x2 + 1))), (0, vR x0), (1, vI x1)]) 2 dX10_isSettled_35 rfl (by decide) rfl ?_
      refine e_goto (tgt := 2) dX10_isSettled_38 (by decide) ?_
      exact e_sub (ls2 := [(0, vR x0), (1, vI x1), (2, vI (w32 (x2 + 1)))]) [1, 2, 0] rfl h
    · replace h := h.2 c
      refine e_aload_n 0 dX10_isSettled_19 rfl ?_
      refine e_iload_n 2 dX10_isSettled_20 rfl ?_
      have o4 := h.1
      replace h := h.2
      refine i_VI (μ' := MX10_degreeAt) (ci := 9) (r := x0) (as := [vI x2]) (st := []) rfl dX10_isSettled_21 mOKX10_degreeAt ⟨mlX10_295, imX10_degreeAt, seX10_degreeAt⟩ (by decide) (Nat.le_of_ble_eq_true rfl) rfl (Nat.le_of_ble_eq_true rfl) ⟨by decide, rfl⟩ o1 (sX10_degreeAt o4 ?_)
      refine e_iload_n 1 dX10_isSettled_24 rfl ?_
      refine e_aload_n 0 dX10_isSettled_25 rfl ?_
      refine i_VI (μ' := MX10_greatestWeight) (ci := 9) (r := x0) (as := []) (st := [vI x1, vI (vX10_degreeAt I R x0 x2)]) rfl dX10_isSettled_26 mOKX10_greatestWeight ⟨mlX10_337, imX10_greatestWeight, seX10_greatestWeight⟩ (by decide) (Nat.le_of_ble_eq_true rfl) rfl (Nat.le_of_ble_eq_true rfl) ⟨by decide, rfl⟩ o1 (CI.mono h ?_)
      clear h
      intro S26 I26 R26 x26_ h
      refine e_isub dX10_isSettled_29 ?_
      refine e_icmp_lt (tgt := 35) dX10_isSettled_30 (by decide) (fun c => ?_) (fun c => ?_)
      · replace h := h.1 c
        refine e_iinc (ls2 := [(2, vI (w32 (x2 + 1))), (0, vR x0), (1, vI x1)]) 2 dX10_isSettled_35 rfl (by decide) rfl ?_
        refine e_goto (tgt := 2) dX10_isSettled_38 (by decide) ?_
        exact e_sub (ls2 := [(0, vR x0), (1, vI x1), (2, vI (w32 (x2 + 1)))]) [1, 2, 0] rfl h
      · replace h := h.2 c
        refine e_iconst dX10_isSettled_33 (by unfold InR; decide) ?_
        exact e_zreturn dX10_isSettled_34 rfl (by decide) ⟨_, rfl, h⟩

def LX10_length_33 (G : Gl) (x0 : Nat) (x1 : Int) (x2 : Int) (x3 : Int) (S : Sh) (I : MI) (R : MR) (Q : Sh → MI → MR → Int → Prop) : Prop := E G MX10_length 33 [(0, vR x0), (1, vI x1), (2, vI x2), (3, vI x3)] [] S I R (qI Q)
set_option maxRecDepth 100000 in
set_option maxHeartbeats 4000000 in
theorem bX10_length {G : Gl} {S : Sh} {I : MI} {R : MR} {Q : Sh → MI → MR → Int → Prop} {x0 : Nat} {x1 : Int} {x2 : Int} (h : (sT S x0 = 10 ∧ (∀ I2, I2 = up2 I x0 0 0 → (((vX10_isIn x0 x1 0 255) = 0 → Q S I2 R (-1)) ∧ (¬ ((vX10_isIn x0 x1 0 255) = 0) → (((vX10_isIn x0 x2 0 1) ≠ 0 → LX10_length_33 G x0 x1 x2 1 S I2 R Q) ∧ (¬ ((vX10_isIn x0 x2 0 1) ≠ 0) → Q S I2 R (-1)))))))) : CI G MX10_length [vR x0, vI x1, vI x2] S I R Q := by
  show E G MX10_length 0 [(0, vR x0), (1, vI x1), (2, vI x2)] [] S I R (qI Q)
  refine e_aload_n 0 dX10_length_0 rfl ?_
  refine e_iconst dX10_length_1 (by unfold InR; decide) ?_
  have o1 := h.1
  replace h := h.2
  obtain ⟨I2, eI2⟩ : ∃ z : MI, z = up2 I x0 0 0 := ⟨_, rfl⟩
  replace h := h I2 eI2
  refine e_putI dX10_length_2 flX10_65 rfl (Or.inl rfl) o1 (eqI eI2 ?_)
  refine e_aload_n 0 dX10_length_5 rfl ?_
  refine e_iload_n 1 dX10_length_6 rfl ?_
  refine e_i2l dX10_length_7 ?_
  refine e_lconst (x := 0) dX10_length_8 ⟨by decide +kernel, by unfold InL; decide⟩ ?_
  refine e_ldc2 (x := 255) dX10_length_9 cnX10_267 (by unfold InL; decide) ?_
  refine i_VI (μ' := MX10_isIn) (ci := 9) (r := x0) (as := [vL x1, vL 0, vL 255]) (st := []) rfl dX10_length_12 mOKX10_isIn ⟨mlX10_106, imX10_isIn, seX10_isIn⟩ (by decide) (Nat.le_of_ble_eq_true rfl) rfl (Nat.le_of_ble_eq_true rfl) ⟨by decide, rfl⟩ o1 (sX10_isIn ?_)
  refine e_if_eq (tgt := 29) dX10_length_15 (by decide) (fun c => ?_) (fun c => ?_)
  · replace h := h.1 c
    refine e_iconst dX10_length_29 (by unfold InR; decide) ?_
    exact e_ireturn dX10_length_30 rfl ⟨_, rfl, h⟩
  · replace h := h.2 c
    refine e_aload_n 0 dX10_length_18 rfl ?_
    refine e_iload_n 2 dX10_length_19 rfl ?_
    refine e_i2l dX10_length_20 ?_
    refine e_lconst (x := 0) dX10_length_21 ⟨by decide +kernel, by unfold InL; decide⟩ ?_
    refine e_lconst (x := 1) dX10_length_22 ⟨by decide +kernel, by unfold InL; decide⟩ ?_
    refine i_VI (μ' := MX10_isIn) (ci := 9) (r := x0) (as := [vL x2, vL 0, vL 1]) (st := []) rfl dX10_length_23 mOKX10_isIn ⟨mlX10_106, imX10_isIn, seX10_isIn⟩ (by decide) (Nat.le_of_ble_eq_true rfl) rfl (Nat.le_of_ble_eq_true rfl) ⟨by decide, rfl⟩ o1 (sX10_isIn ?_)
    refine e_if_ne (tgt := 31) dX10_length_26 (by decide) (fun c => ?_) (fun c => ?_)
    · replace h := h.1 c
      refine e_iconst dX10_length_31 (by unfold InR; decide) ?_
      refine e_istore_n (ls2 := [(3, vI 1), (0, vR x0), (1, vI x1), (2, vI x2)]) dX10_length_32 (by decide) rfl ?_
      exact e_sub (ls2 := [(0, vR x0), (1, vI x1), (2, vI x2), (3, vI 1)]) [1, 2, 3, 0] rfl h
    · replace h := h.2 c
      refine e_iconst dX10_length_29 (by unfold InR; decide) ?_
      exact e_ireturn dX10_length_30 rfl ⟨_, rfl, h⟩
set_option maxRecDepth 100000 in
set_option maxHeartbeats 4000000 in
theorem bX10_length_33 {G : Gl} {S : Sh} {I : MI} {R : MR} {Q : Sh → MI → MR → Int → Prop} {x0 : Nat} {x1 : Int} {x2 : Int} {x3 : Int} (h : (sT S x0 = 10 ∧ ((pX10_bound S x0) ∧ (((vX10_bound I x0) < x3 → Q S I R (-1)) ∧ (¬ ((vX10_bound I x0) < x3) → (CV G MX10_laysIdeal [vR x0, vI x1, vI x3] S I R (fun S44 I44 R44 => (sT S44 x0 = 10 ∧ (CI G MX10_isSettled [vR x0, vI x3] S44 I44 R44 (fun S49 I49 R49 x49_ => ((x49_ = 0 → LX10_length_33 G x0 x1 x2 (w32 (x3 + 1)) S49 I49 R49 Q) ∧ (¬ (x49_ = 0) → ((x2 ≠ 0 → (sT S49 x0 = 10 ∧ (CI G MX10_found [vR x0, vI 0, vI (-1)] S49 I49 R49 (fun S66 I66 R66 x66_ => Q S66 I66 R66 x66_)))) ∧ (¬ (x2 ≠ 0) → Q S49 I49 R49 x3)))))))))))))) : LX10_length_33 G x0 x1 x2 x3 S I R Q := by
  show E G MX10_length 33 [(0, vR x0), (1, vI x1), (2, vI x2), (3, vI x3)] [] S I R (qI Q)
  refine e_iload_n 3 dX10_length_33 rfl ?_
  refine e_aload_n 0 dX10_length_34 rfl ?_
  have o2 := h.1
  replace h := h.2
  have o3 := h.1
  replace h := h.2
  refine i_VI (μ' := MX10_bound) (ci := 9) (r := x0) (as := []) (st := [vI x3]) rfl dX10_length_35 mOKX10_bound ⟨mlX10_313, imX10_bound, seX10_bound⟩ (by decide) (Nat.le_of_ble_eq_true rfl) rfl (Nat.le_of_ble_eq_true rfl) ⟨by decide, rfl⟩ o2 (sX10_bound o3 ?_)
  refine e_icmp_gt (tgt := 76) dX10_length_38 (by decide) (fun c => ?_) (fun c => ?_)
  · replace h := h.1 c
    refine e_iconst dX10_length_76 (by unfold InR; decide) ?_
    exact e_ireturn dX10_length_77 rfl ⟨_, rfl, h⟩
  · replace h := h.2 c
    refine e_aload_n 0 dX10_length_41 rfl ?_
    refine e_iload_n 1 dX10_length_42 rfl ?_
    refine e_iload_n 3 dX10_length_43 rfl ?_
    refine i_VV (μ' := MX10_laysIdeal) (ci := 9) (r := x0) (as := [vI x1, vI x3]) (st := []) rfl dX10_length_44 mOKX10_laysIdeal ⟨mlX10_325, imX10_laysIdeal, seX10_laysIdeal⟩ (by decide) (Nat.le_of_ble_eq_true rfl) rfl (Nat.le_of_ble_eq_true rfl) ⟨by decide, rfl⟩ o2 (CV.mono h ?_)
    clear h
    intro S44 I44 R44 h
    refine e_aload_n 0 dX10_length_47 rfl ?_
    refine e_iload_n 3 dX10_length_48 rfl ?_
    have o4 := h.1
    replace h := h.2
    refine i_VI (μ' := MX10_isSettled) (ci := 9) (r := x0) (as := [vI x3]) (st := []) rfl dX10_length_49 mOKX10_isSettled ⟨mlX10_340, imX10_isSettled, seX10_isSettled⟩ (by decide) (Nat.le_of_ble_eq_true rfl) rfl (Nat.le_of_ble_eq_true rfl) ⟨by decide, rfl⟩ o4 (CI.mono h ?_)
    clear h
    intro S49 I49 R49 x49_ h
    refine e_if_eq (tgt := 70) dX10_length_52 (by decide) (fun c => ?_) (fun c => ?_)
    · replace h := h.1 c
      refine e_iinc (ls2 := [(3, vI (w32 (x3 + 1))), (0, vR x0), (1, vI x1), (2, vI x2)]) 3 dX10_length_70 rfl (by decide) rfl ?_
      refine e_goto (tgt := 33) dX10_length_73 (by decide) ?_
      exact e_sub (ls2 := [(0, vR x0), (1, vI x1), (2, vI x2), (3, vI (w32 (x3 + 1)))]) [1, 2, 3, 0] rfl h
    · replace h := h.2 c
      refine e_iload_n 2 dX10_length_55 rfl ?_
      refine e_if_ne (tgt := 63) dX10_length_56 (by decide) (fun c => ?_) (fun c => ?_)
      · replace h := h.1 c
        refine e_aload_n 0 dX10_length_63 rfl ?_
        refine e_iconst dX10_length_64 (by unfold InR; decide) ?_
        refine e_iconst dX10_length_65 (by unfold InR; decide) ?_
        have o5 := h.1
        replace h := h.2
        refine i_VI (μ' := MX10_found) (ci := 9) (r := x0) (as := [vI 0, vI (-1)]) (st := []) rfl dX10_length_66 mOKX10_found ⟨mlX10_328, imX10_found, seX10_found⟩ (by decide) (Nat.le_of_ble_eq_true rfl) rfl (Nat.le_of_ble_eq_true rfl) ⟨by decide, rfl⟩ o5 (CI.mono h ?_)
        clear h
        intro S66 I66 R66 x66_ h
        exact e_ireturn dX10_length_69 rfl ⟨_, rfl, h⟩
      · replace h := h.2 c
        refine e_iload_n 3 dX10_length_59 rfl ?_
        refine e_goto (tgt := 69) dX10_length_60 (by decide) ?_
        exact e_ireturn dX10_length_69 rfl ⟨_, rfl, h⟩

def LX10_number_28 (G : Gl) (x0 : Nat) (x1 : Int) (x2 : Int) (x3 : Int) (S : Sh) (I : MI) (R : MR) (Q : Sh → MI → MR → Int → Prop) : Prop := E G MX10_number 28 [(0, vR x0), (1, vI x1), (2, vI x2), (3, vI x3)] [] S I R (qI Q)
def LX10_number_44 (G : Gl) (x0 : Nat) (x1 : Int) (x2 : Int) (x3 : Int) (x4 : Int) (S : Sh) (I : MI) (R : MR) (Q : Sh → MI → MR → Int → Prop) : Prop := E G MX10_number 44 [(0, vR x0), (1, vI x1), (2, vI x2), (3, vI x3), (4, vI x4)] [] S I R (qI Q)
def LX10_number_93 (G : Gl) (x0 : Nat) (x1 : Int) (x2 : Int) (x3 : Int) (S : Sh) (I : MI) (R : MR) (Q : Sh → MI → MR → Int → Prop) : Prop := E G MX10_number 93 [(0, vR x0), (1, vI x1), (2, vI x2), (3, vI x3)] [] S I R (qI Q)
set_option maxRecDepth 100000 in
set_option maxHeartbeats 4000000 in
theorem bX10_number {G : Gl} {S : Sh} {I : MI} {R : MR} {Q : Sh → MI → MR → Int → Prop} {x0 : Nat} {x1 : Int} {x2 : Int} (h : (sT S x0 = 10 ∧ (∀ I2, I2 = up2 I x0 0 0 → ((pX10_isSlot S x0 x1) ∧ (((vX10_isSlot x0 x1) = 0 → Q S I2 R (-1)) ∧ (¬ ((vX10_isSlot x0 x1) = 0) → (((vX10_isIn x0 x2 0 1) ≠ 0 → LX10_number_28 G x0 x1 x2 1 S I2 R Q) ∧ (¬ ((vX10_isIn x0 x2 0 1) ≠ 0) → Q S I2 R (-1))))))))) : CI G MX10_number [vR x0, vI x1, vI x2] S I R Q := by
  show E G MX10_number 0 [(0, vR x0), (1, vI x1), (2, vI x2)] [] S I R (qI Q)
  refine e_aload_n 0 dX10_number_0 rfl ?_
  refine e_iconst dX10_number_1 (by unfold InR; decide) ?_
  have o1 := h.1
  replace h := h.2
  obtain ⟨I2, eI2⟩ : ∃ z : MI, z = up2 I x0 0 0 := ⟨_, rfl⟩
  replace h := h I2 eI2
  refine e_putI dX10_number_2 flX10_65 rfl (Or.inl rfl) o1 (eqI eI2 ?_)
  refine e_aload_n 0 dX10_number_5 rfl ?_
  refine e_iload_n 1 dX10_number_6 rfl ?_
  have o2 := h.1
  replace h := h.2
  refine i_VI (μ' := MX10_isSlot) (ci := 9) (r := x0) (as := [vI x1]) (st := []) rfl dX10_number_7 mOKX10_isSlot ⟨mlX10_188, imX10_isSlot, seX10_isSlot⟩ (by decide) (Nat.le_of_ble_eq_true rfl) rfl (Nat.le_of_ble_eq_true rfl) ⟨by decide, rfl⟩ o1 (sX10_isSlot o2 ?_)
  refine e_if_eq (tgt := 24) dX10_number_10 (by decide) (fun c => ?_) (fun c => ?_)
  · replace h := h.1 c
    refine e_iconst dX10_number_24 (by unfold InR; decide) ?_
    exact e_ireturn dX10_number_25 rfl ⟨_, rfl, h⟩
  · replace h := h.2 c
    refine e_aload_n 0 dX10_number_13 rfl ?_
    refine e_iload_n 2 dX10_number_14 rfl ?_
    refine e_i2l dX10_number_15 ?_
    refine e_lconst (x := 0) dX10_number_16 ⟨by decide +kernel, by unfold InL; decide⟩ ?_
    refine e_lconst (x := 1) dX10_number_17 ⟨by decide +kernel, by unfold InL; decide⟩ ?_
    refine i_VI (μ' := MX10_isIn) (ci := 9) (r := x0) (as := [vL x2, vL 0, vL 1]) (st := []) rfl dX10_number_18 mOKX10_isIn ⟨mlX10_106, imX10_isIn, seX10_isIn⟩ (by decide) (Nat.le_of_ble_eq_true rfl) rfl (Nat.le_of_ble_eq_true rfl) ⟨by decide, rfl⟩ o1 (sX10_isIn ?_)
    refine e_if_ne (tgt := 26) dX10_number_21 (by decide) (fun c => ?_) (fun c => ?_)
    · replace h := h.1 c
      refine e_iconst dX10_number_26 (by unfold InR; decide) ?_
      refine e_istore_n (ls2 := [(3, vI 1), (0, vR x0), (1, vI x1), (2, vI x2)]) dX10_number_27 (by decide) rfl ?_
      exact e_sub (ls2 := [(0, vR x0), (1, vI x1), (2, vI x2), (3, vI 1)]) [1, 2, 3, 0] rfl h
    · replace h := h.2 c
      refine e_iconst dX10_number_24 (by unfold InR; decide) ?_
      exact e_ireturn dX10_number_25 rfl ⟨_, rfl, h⟩
set_option maxRecDepth 100000 in
set_option maxHeartbeats 4000000 in
theorem bX10_number_28 {G : Gl} {S : Sh} {I : MI} {R : MR} {Q : Sh → MI → MR → Int → Prop} {x0 : Nat} {x1 : Int} {x2 : Int} {x3 : Int} (h : (sT S x0 = 10 ∧ ((pX10_bound S x0) ∧ (((vX10_bound I x0) < x3 → Q S I R (-1)) ∧ (¬ ((vX10_bound I x0) < x3) → (CV G MX10_beginsIdeal [vR x0, vI x3] S I R (fun S38 I38 R38 => LX10_number_44 G x0 x1 x2 x3 0 S38 I38 R38 Q))))))) : LX10_number_28 G x0 x1 x2 x3 S I R Q := by
  show E G MX10_number 28 [(0, vR x0), (1, vI x1), (2, vI x2), (3, vI x3)] [] S I R (qI Q)
  refine e_iload_n 3 dX10_number_28 rfl ?_
  refine e_aload_n 0 dX10_number_29 rfl ?_
  have o3 := h.1
  replace h := h.2
  have o4 := h.1
  replace h := h.2
  refine i_VI (μ' := MX10_bound) (ci := 9) (r := x0) (as := []) (st := [vI x3]) rfl dX10_number_30 mOKX10_bound ⟨mlX10_313, imX10_bound, seX10_bound⟩ (by decide) (Nat.le_of_ble_eq_true rfl) rfl (Nat.le_of_ble_eq_true rfl) ⟨by decide, rfl⟩ o3 (sX10_bound o4 ?_)
  refine e_icmp_gt (tgt := 114) dX10_number_33 (by decide) (fun c => ?_) (fun c => ?_)
  · replace h := h.1 c
    refine e_iconst dX10_number_114 (by unfold InR; decide) ?_
    exact e_ireturn dX10_number_115 rfl ⟨_, rfl, h⟩
  · replace h := h.2 c
    refine e_aload_n 0 dX10_number_36 rfl ?_
    refine e_iload_n 3 dX10_number_37 rfl ?_
    refine i_VV (μ' := MX10_beginsIdeal) (ci := 9) (r := x0) (as := [vI x3]) (st := []) rfl dX10_number_38 mOKX10_beginsIdeal ⟨mlX10_307, imX10_beginsIdeal, seX10_beginsIdeal⟩ (by decide) (Nat.le_of_ble_eq_true rfl) rfl (Nat.le_of_ble_eq_true rfl) ⟨by decide, rfl⟩ o3 (CV.mono h ?_)
    clear h
    intro S38 I38 R38 h
    refine e_iconst dX10_number_41 (by unfold InR; decide) ?_
    refine e_istore (ls2 := [(4, vI 0), (0, vR x0), (1, vI x1), (2, vI x2), (3, vI x3)]) dX10_number_42 (by decide) rfl ?_
    exact e_sub (ls2 := [(0, vR x0), (1, vI x1), (2, vI x2), (3, vI x3), (4, vI 0)]) [1, 2, 3, 4, 0] rfl h
set_option maxRecDepth 100000 in
set_option maxHeartbeats 4000000 in
theorem bX10_number_44 {G : Gl} {S : Sh} {I : MI} {R : MR} {Q : Sh → MI → MR → Int → Prop} {x0 : Nat} {x1 : Int} {x2 : Int} {x3 : Int} {x4 : Int} (h : (sT S x0 = 10 ∧ (((I x0 1) ≤ x4 → ((x2 ≠ 1 → LX10_number_93 G x0 x1 x2 x3 S I R Q) ∧ (¬ (x2 ≠ 1) → (CV G MX10_addsAll [vR x0, vI x1] S I R (fun S90 I90 R90 => LX10_number_93 G x0 x1 x2 x3 S90 I90 R90 Q))))) ∧ (¬ ((I x0 1) ≤ x4) → (CV G MX10_heapsPart [vR x0, vI x1, vI x4] S I R (fun S57 I57 R57 => (sT S57 x0 = 10 ∧ (CI G MX10_takes [vR x0, vI 291] S57 I57 R57 (fun S64 I64 R64 x64_ => ((x64_ = 0 → LX10_number_44 G x0 x1 x2 x3 (w32 (x4 + 1)) S64 I64 R64 Q) ∧ (¬ (x64_ = 0) → (sT S64 x0 = 10 ∧ (CV G MX10_addsAll [vR x0, vI 291] S64 I64 R64 (fun S74 I74 R74 => LX10_number_44 G x0 x1 x2 x3 (w32 (x4 + 1)) S74 I74 R74 Q)))))))))))))) : LX10_number_44 G x0 x1 x2 x3 x4 S I R Q := by
  show E G MX10_number 44 [(0, vR x0), (1, vI x1), (2, vI x2), (3, vI x3), (4, vI x4)] [] S I R (qI Q)
  refine e_iload 4 dX10_number_44 rfl ?_
  refine e_aload_n 0 dX10_number_46 rfl ?_
  have o5 := h.1
  replace h := h.2
  refine e_getI dX10_number_47 flX10_7 rfl o5 ?_
  refine e_icmp_ge (tgt := 83) dX10_number_50 (by decide) (fun c => ?_) (fun c => ?_)
  · replace h := h.1 c
    refine e_iload_n 2 dX10_number_83 rfl ?_
    refine e_iconst dX10_number_84 (by unfold InR; decide) ?_
    refine e_icmp_ne (tgt := 93) dX10_number_85 (by decide) (fun c => ?_) (fun c => ?_)
    · replace h := h.1 c
      exact e_sub (ls2 := [(0, vR x0), (1, vI x1), (2, vI x2), (3, vI x3)]) [0, 1, 2, 3] rfl h
    · replace h := h.2 c
      refine e_aload_n 0 dX10_number_88 rfl ?_
      refine e_iload_n 1 dX10_number_89 rfl ?_
      refine i_VV (μ' := MX10_addsAll) (ci := 9) (r := x0) (as := [vI x1]) (st := []) rfl dX10_number_90 mOKX10_addsAll ⟨mlX10_310, imX10_addsAll, seX10_addsAll⟩ (by decide) (Nat.le_of_ble_eq_true rfl) rfl (Nat.le_of_ble_eq_true rfl) ⟨by decide, rfl⟩ o5 (CV.mono h ?_)
      clear h
      intro S90 I90 R90 h
      exact e_sub (ls2 := [(0, vR x0), (1, vI x1), (2, vI x2), (3, vI x3)]) [0, 1, 2, 3] rfl h
  · replace h := h.2 c
    refine e_aload_n 0 dX10_number_53 rfl ?_
    refine e_iload_n 1 dX10_number_54 rfl ?_
    refine e_iload 4 dX10_number_55 rfl ?_
    refine i_VV (μ' := MX10_heapsPart) (ci := 9) (r := x0) (as := [vI x1, vI x4]) (st := []) rfl dX10_number_57 mOKX10_heapsPart ⟨mlX10_225, imX10_heapsPart, seX10_heapsPart⟩ (by decide) (Nat.le_of_ble_eq_true rfl) rfl (Nat.le_of_ble_eq_true rfl) ⟨by decide, rfl⟩ o5 (CV.mono h ?_)
    clear h
    intro S57 I57 R57 h
    refine e_aload_n 0 dX10_number_60 rfl ?_
    refine e_sipush (x := 291) dX10_number_61 ⟨by decide +kernel, by unfold InR; decide⟩ ?_
    have o6 := h.1
    replace h := h.2
    refine i_VI (μ' := MX10_takes) (ci := 9) (r := x0) (as := [vI 291]) (st := []) rfl dX10_number_64 mOKX10_takes ⟨mlX10_128, imX10_takes, seX10_takes⟩ (by decide) (Nat.le_of_ble_eq_true rfl) rfl (Nat.le_of_ble_eq_true rfl) ⟨by decide, rfl⟩ o6 (CI.mono h ?_)
    clear h
    intro S64 I64 R64 x64_ h
    refine e_if_eq (tgt := 77) dX10_number_67 (by decide) (fun c => ?_) (fun c => ?_)
    · replace h := h.1 c
      refine e_iinc (ls2 := [(4, vI (w32 (x4 + 1))), (0, vR x0), (1, vI x1), (2, vI x2), (3, vI x3)]) 4 dX10_number_77 rfl (by decide) rfl ?_
      refine e_goto (tgt := 44) dX10_number_80 (by decide) ?_
      exact e_sub (ls2 := [(0, vR x0), (1, vI x1), (2, vI x2), (3, vI x3), (4, vI (w32 (x4 + 1)))]) [1, 2, 3, 4, 0] rfl h
    · replace h := h.2 c
      refine e_aload_n 0 dX10_number_70 rfl ?_
      refine e_sipush (x := 291) dX10_number_71 ⟨by decide +kernel, by unfold InR; decide⟩ ?_
      have o7 := h.1
      replace h := h.2
      refine i_VV (μ' := MX10_addsAll) (ci := 9) (r := x0) (as := [vI 291]) (st := []) rfl dX10_number_74 mOKX10_addsAll ⟨mlX10_310, imX10_addsAll, seX10_addsAll⟩ (by decide) (Nat.le_of_ble_eq_true rfl) rfl (Nat.le_of_ble_eq_true rfl) ⟨by decide, rfl⟩ o7 (CV.mono h ?_)
      clear h
      intro S74 I74 R74 h
      refine e_iinc (ls2 := [(4, vI (w32 (x4 + 1))), (0, vR x0), (1, vI x1), (2, vI x2), (3, vI x3)]) 4 dX10_number_77 rfl (by decide) rfl ?_
      refine e_goto (tgt := 44) dX10_number_80 (by decide) ?_
      exact e_sub (ls2 := [(0, vR x0), (1, vI x1), (2, vI x2), (3, vI x3), (4, vI (w32 (x4 + 1)))]) [1, 2, 3, 4, 0] rfl h
set_option maxRecDepth 100000 in
set_option maxHeartbeats 4000000 in
theorem bX10_number_93 {G : Gl} {S : Sh} {I : MI} {R : MR} {Q : Sh → MI → MR → Int → Prop} {x0 : Nat} {x1 : Int} {x2 : Int} {x3 : Int} (h : (sT S x0 = 10 ∧ (CI G MX10_isSettled [vR x0, vI x3] S I R (fun S95 I95 R95 x95_ => ((x95_ = 0 → LX10_number_28 G x0 x1 x2 (w32 (x3 + 1)) S95 I95 R95 Q) ∧ (¬ (x95_ = 0) → (sT S95 x0 = 10 ∧ (CI G MX10_found [vR x0, vI 0, vI (-1)] S95 I95 R95 (fun S104 I104 R104 x104_ => Q S104 I104 R104 x104_))))))))) : LX10_number_93 G x0 x1 x2 x3 S I R Q := by
  show E G MX10_number 93 [(0, vR x0), (1, vI x1), (2, vI x2), (3, vI x3)] [] S I R (qI Q)
  refine e_aload_n 0 dX10_number_93 rfl ?_
  refine e_iload_n 3 dX10_number_94 rfl ?_
  have o8 := h.1
  replace h := h.2
  refine i_VI (μ' := MX10_isSettled) (ci := 9) (r := x0) (as := [vI x3]) (st := []) rfl dX10_number_95 mOKX10_isSettled ⟨mlX10_340, imX10_isSettled, seX10_isSettled⟩ (by decide) (Nat.le_of_ble_eq_true rfl) rfl (Nat.le_of_ble_eq_true rfl) ⟨by decide, rfl⟩ o8 (CI.mono h ?_)
  clear h
  intro S95 I95 R95 x95_ h
  refine e_if_eq (tgt := 108) dX10_number_98 (by decide) (fun c => ?_) (fun c => ?_)
  · replace h := h.1 c
    refine e_iinc (ls2 := [(3, vI (w32 (x3 + 1))), (0, vR x0), (1, vI x1), (2, vI x2)]) 3 dX10_number_108 rfl (by decide) rfl ?_
    refine e_goto (tgt := 28) dX10_number_111 (by decide) ?_
    exact e_sub (ls2 := [(0, vR x0), (1, vI x1), (2, vI x2), (3, vI (w32 (x3 + 1)))]) [1, 2, 3, 0] rfl h
  · replace h := h.2 c
    refine e_aload_n 0 dX10_number_101 rfl ?_
    refine e_iconst dX10_number_102 (by unfold InR; decide) ?_
    refine e_iconst dX10_number_103 (by unfold InR; decide) ?_
    have o9 := h.1
    replace h := h.2
    refine i_VI (μ' := MX10_found) (ci := 9) (r := x0) (as := [vI 0, vI (-1)]) (st := []) rfl dX10_number_104 mOKX10_found ⟨mlX10_328, imX10_found, seX10_found⟩ (by decide) (Nat.le_of_ble_eq_true rfl) rfl (Nat.le_of_ble_eq_true rfl) ⟨by decide, rfl⟩ o9 (CI.mono h ?_)
    clear h
    intro S104 I104 R104 x104_ h
    exact e_ireturn dX10_number_107 rfl ⟨_, rfl, h⟩

set_option maxRecDepth 100000 in
set_option maxHeartbeats 4000000 in
theorem bX10_allOf {G : Gl} {S : Sh} {I : MI} {R : MR} {Q : Sh → MI → MR → Int → Prop} {x0 : Nat} {x1 : Int} (h : (sT S x0 = 10 ∧ (CV G MX10_laysMonomials [vR x0, vI x1] S I R (fun S2 I2 R2 => (sT S2 x0 = 10 ∧ Q S2 I2 R2 (I2 x0 28)))))) : CI G MX10_allOf [vR x0, vI x1] S I R Q := by
  show E G MX10_allOf 0 [(0, vR x0), (1, vI x1)] [] S I R (qI Q)
  refine e_aload_n 0 dX10_allOf_0 rfl ?_
  refine e_iload_n 1 dX10_allOf_1 rfl ?_
  have o1 := h.1
  replace h := h.2
  refine i_VV (μ' := MX10_laysMonomials) (ci := 9) (r := x0) (as := [vI x1]) (st := []) rfl dX10_allOf_2 mOKX10_laysMonomials ⟨mlX10_304, imX10_laysMonomials, seX10_laysMonomials⟩ (by decide) (Nat.le_of_ble_eq_true rfl) rfl (Nat.le_of_ble_eq_true rfl) ⟨by decide, rfl⟩ o1 (CV.mono h ?_)
  clear h
  intro S2 I2 R2 h
  refine e_aload_n 0 dX10_allOf_5 rfl ?_
  have o2 := h.1
  replace h := h.2
  refine e_getI dX10_allOf_6 flX10_283 rfl o2 ?_
  exact e_ireturn dX10_allOf_9 rfl ⟨_, rfl, h⟩

set_option maxRecDepth 100000 in
set_option maxHeartbeats 4000000 in
theorem bX10_all {G : Gl} {S : Sh} {I : MI} {R : MR} {Q : Sh → MI → MR → Int → Prop} {x0 : Nat} {x1 : Int} {x2 : Int} (h : (sT S x0 = 10 ∧ (∀ I2, I2 = up2 I x0 0 0 → ((pX10_bound S x0) ∧ (((vX10_isIn x0 x1 1 (vX10_bound I2 x0)) = 0 → Q S I2 R (-1)) ∧ (¬ ((vX10_isIn x0 x1 1 (vX10_bound I2 x0)) = 0) → (((vX10_isIn x0 x2 0 1) ≠ 0 → (CI G MX10_allOf [vR x0, vI x1] S I2 R (fun S35 I35 R35 x35_ => ((x2 ≠ 0 → (sT S35 x0 = 10 ∧ (CI G MX10_allOf [vR x0, vI (w32 (x1 + 1))] S35 I35 R35 (fun S51 I51 R51 x51_ => Q S51 I51 R51 (w32 (x51_ - x35_)))))) ∧ (¬ (x2 ≠ 0) → Q S35 I35 R35 x35_))))) ∧ (¬ ((vX10_isIn x0 x2 0 1) ≠ 0) → Q S I2 R (-1))))))))) : CI G MX10_all [vR x0, vI x1, vI x2] S I R Q := by
  show E G MX10_all 0 [(0, vR x0), (1, vI x1), (2, vI x2)] [] S I R (qI Q)
  refine e_aload_n 0 dX10_all_0 rfl ?_
  refine e_iconst dX10_all_1 (by unfold InR; decide) ?_
  have o1 := h.1
  replace h := h.2
  obtain ⟨I2, eI2⟩ : ∃ z : MI, z = up2 I x0 0 0 := ⟨_, rfl⟩
  replace h := h I2 eI2
  refine e_putI dX10_all_2 flX10_65 rfl (Or.inl rfl) o1 (eqI eI2 ?_)
  refine e_aload_n 0 dX10_all_5 rfl ?_
  refine e_iload_n 1 dX10_all_6 rfl ?_
  refine e_i2l dX10_all_7 ?_
  refine e_lconst (x := 1) dX10_all_8 ⟨by decide +kernel, by unfold InL; decide⟩ ?_
  refine e_aload_n 0 dX10_all_9 rfl ?_
  have o2 := h.1
  replace h := h.2
  refine i_VI (μ' := MX10_bound) (ci := 9) (r := x0) (as := []) (st := [vL 1, vL x1, vR x0]) rfl dX10_all_10 mOKX10_bound ⟨mlX10_313, imX10_bound, seX10_bound⟩ (by decide) (Nat.le_of_ble_eq_true rfl) rfl (Nat.le_of_ble_eq_true rfl) ⟨by decide, rfl⟩ o1 (sX10_bound o2 ?_)
  refine e_i2l dX10_all_13 ?_
  refine i_VI (μ' := MX10_isIn) (ci := 9) (r := x0) (as := [vL x1, vL 1, vL (vX10_bound I2 x0)]) (st := []) rfl dX10_all_14 mOKX10_isIn ⟨mlX10_106, imX10_isIn, seX10_isIn⟩ (by decide) (Nat.le_of_ble_eq_true rfl) rfl (Nat.le_of_ble_eq_true rfl) ⟨by decide, rfl⟩ o1 (sX10_isIn ?_)
  refine e_if_eq (tgt := 31) dX10_all_17 (by decide) (fun c => ?_) (fun c => ?_)
  · replace h := h.1 c
    refine e_iconst dX10_all_31 (by unfold InR; decide) ?_
    exact e_ireturn dX10_all_32 rfl ⟨_, rfl, h⟩
  · replace h := h.2 c
    refine e_aload_n 0 dX10_all_20 rfl ?_
    refine e_iload_n 2 dX10_all_21 rfl ?_
    refine e_i2l dX10_all_22 ?_
    refine e_lconst (x := 0) dX10_all_23 ⟨by decide +kernel, by unfold InL; decide⟩ ?_
    refine e_lconst (x := 1) dX10_all_24 ⟨by decide +kernel, by unfold InL; decide⟩ ?_
    refine i_VI (μ' := MX10_isIn) (ci := 9) (r := x0) (as := [vL x2, vL 0, vL 1]) (st := []) rfl dX10_all_25 mOKX10_isIn ⟨mlX10_106, imX10_isIn, seX10_isIn⟩ (by decide) (Nat.le_of_ble_eq_true rfl) rfl (Nat.le_of_ble_eq_true rfl) ⟨by decide, rfl⟩ o1 (sX10_isIn ?_)
    refine e_if_ne (tgt := 33) dX10_all_28 (by decide) (fun c => ?_) (fun c => ?_)
    · replace h := h.1 c
      refine e_aload_n 0 dX10_all_33 rfl ?_
      refine e_iload_n 1 dX10_all_34 rfl ?_
      refine i_VI (μ' := MX10_allOf) (ci := 9) (r := x0) (as := [vI x1]) (st := []) rfl dX10_all_35 mOKX10_allOf ⟨mlX10_343, imX10_allOf, seX10_allOf⟩ (by decide) (Nat.le_of_ble_eq_true rfl) rfl (Nat.le_of_ble_eq_true rfl) ⟨by decide, rfl⟩ o1 (CI.mono h ?_)
      clear h
      intro S35 I35 R35 x35_ h
      refine e_istore_n (ls2 := [(3, vI x35_), (0, vR x0), (1, vI x1), (2, vI x2)]) dX10_all_38 (by decide) rfl ?_
      refine e_iload_n 3 dX10_all_39 rfl ?_
      refine e_if_ne (tgt := 47) dX10_all_40 (by decide) (fun c => ?_) (fun c => ?_)
      · replace h := h.1 c
        refine e_aload_n 1 dX10_all_47 rfl ?_
        refine e_iload_n 2 dX10_all_48 rfl ?_
        refine e_iconst dX10_all_49 (by unfold InR; decide) ?_
        refine e_iadd dX10_all_50 ?_
        have o3 := h.1
        replace h := h.2
        refine i_VI (μ' := MX10_allOf) (ci := 9) (r := x0) (as := [vI (w32 (x1 + 1))]) (st := []) rfl dX10_all_51 mOKX10_allOf ⟨mlX10_343, imX10_allOf, seX10_allOf⟩ (by decide) (Nat.le_of_ble_eq_true rfl) rfl (Nat.le_of_ble_eq_true rfl) ⟨by decide, rfl⟩ o3 (CI.mono h ?_)
        clear h
        intro S51 I51 R51 x51_ h
        refine e_iload_n 0 dX10_all_54 rfl ?_
        refine e_isub dX10_all_55 ?_
        exact e_ireturn dX10_all_56 rfl ⟨_, rfl, h⟩
      · replace h := h.2 c
        refine e_iload_n 0 dX10_all_43 rfl ?_
        refine e_goto (tgt := 56) dX10_all_44 (by decide) ?_
        exact e_ireturn dX10_all_56 rfl ⟨_, rfl, h⟩
    · replace h := h.2 c
      refine e_iconst dX10_all_31 (by unfold InR; decide) ?_
      exact e_ireturn dX10_all_32 rfl ⟨_, rfl, h⟩

def LX10_notNought_4 (G : Gl) (x0 : Nat) (x1 : Int) (x2 : Int) (S : Sh) (I : MI) (R : MR) (Q : Sh → MI → MR → Int → Prop) : Prop := E G MX10_notNought 4 [(0, vR x0), (1, vI x1), (2, vI x2)] [] S I R (qI Q)
set_option maxRecDepth 100000 in
set_option maxHeartbeats 4000000 in
theorem bX10_notNought {G : Gl} {S : Sh} {I : MI} {R : MR} {Q : Sh → MI → MR → Int → Prop} {x0 : Nat} (h : LX10_notNought_4 G x0 0 0 S I R Q) : CI G MX10_notNought [vR x0] S I R Q := by
  show E G MX10_notNought 0 [(0, vR x0)] [] S I R (qI Q)
  refine e_iconst dX10_notNought_0 (by unfold InR; decide) ?_
  refine e_istore_n (ls2 := [(1, vI 0), (0, vR x0)]) dX10_notNought_1 (by decide) rfl ?_
  refine e_iconst dX10_notNought_2 (by unfold InR; decide) ?_
  refine e_istore_n (ls2 := [(2, vI 0), (1, vI 0), (0, vR x0)]) dX10_notNought_3 (by decide) rfl ?_
  exact e_sub (ls2 := [(0, vR x0), (1, vI 0), (2, vI 0)]) [2, 1, 0] rfl h
set_option maxRecDepth 100000 in
set_option maxHeartbeats 4000000 in
theorem bX10_notNought_4 {G : Gl} {S : Sh} {I : MI} {R : MR} {Q : Sh → MI → MR → Int → Prop} {x0 : Nat} {x1 : Int} {x2 : Int} (h : ((8 ≤ x2 → Q S I R x1) ∧ (¬ (8 ≤ x2) → (sT S x0 = 10 ∧ (sT S (R x0 4) = 21 ∧ (((0 : Int) ≤ x2 ∧ x2 < (sL S (R x0 4) : Int)) ∧ (((I (R x0 4) (Int.toNat x2)) ≤ 0 → LX10_notNought_4 G x0 x1 (w32 (x2 + 1)) S I R Q) ∧ (¬ ((I (R x0 4) (Int.toNat x2)) ≤ 0) → LX10_notNought_4 G x0 (ior x1 (ishl 1 x2)) (w32 (x2 + 1)) S I R Q)))))))) : LX10_notNought_4 G x0 x1 x2 S I R Q := by
  show E G MX10_notNought 4 [(0, vR x0), (1, vI x1), (2, vI x2)] [] S I R (qI Q)
  refine e_iload_n 2 dX10_notNought_4 rfl ?_
  refine e_bipush (x := 8) dX10_notNought_5 ⟨by decide +kernel, by unfold InR; decide⟩ ?_
  refine e_icmp_ge (tgt := 35) dX10_notNought_7 (by decide) (fun c => ?_) (fun c => ?_)
  · replace h := h.1 c
    refine e_iload_n 1 dX10_notNought_35 rfl ?_
    exact e_ireturn dX10_notNought_36 rfl ⟨_, rfl, h⟩
  · replace h := h.2 c
    refine e_aload_n 0 dX10_notNought_10 rfl ?_
    have o1 := h.1
    replace h := h.2
    refine e_getR dX10_notNought_11 flX10_20 rfl o1 ?_
    refine e_iload_n 2 dX10_notNought_14 rfl ?_
    have o2 := h.1
    replace h := h.2
    have o3 := h.1
    replace h := h.2
    refine e_iald dX10_notNought_15 o2 o3 ?_
    refine e_if_le (tgt := 27) dX10_notNought_16 (by decide) (fun c => ?_) (fun c => ?_)
    · replace h := h.1 c
      refine e_iload_n 1 dX10_notNought_27 rfl ?_
      refine e_istore_n (ls2 := [(1, vI x1), (0, vR x0), (2, vI x2)]) dX10_notNought_28 (by decide) rfl ?_
      refine e_iinc (ls2 := [(2, vI (w32 (x2 + 1))), (1, vI x1), (0, vR x0)]) 2 dX10_notNought_29 rfl (by decide) rfl ?_
      refine e_goto (tgt := 4) dX10_notNought_32 (by decide) ?_
      exact e_sub (ls2 := [(0, vR x0), (1, vI x1), (2, vI (w32 (x2 + 1)))]) [2, 1, 0] rfl h
    · replace h := h.2 c
      refine e_iload_n 1 dX10_notNought_19 rfl ?_
      refine e_iconst dX10_notNought_20 (by unfold InR; decide) ?_
      refine e_iload_n 2 dX10_notNought_21 rfl ?_
      refine e_ishl dX10_notNought_22 ?_
      refine e_ior dX10_notNought_23 ?_
      refine e_goto (tgt := 28) dX10_notNought_24 (by decide) ?_
      refine e_istore_n (ls2 := [(1, vI (ior x1 (ishl 1 x2))), (0, vR x0), (2, vI x2)]) dX10_notNought_28 (by decide) rfl ?_
      refine e_iinc (ls2 := [(2, vI (w32 (x2 + 1))), (1, vI (ior x1 (ishl 1 x2))), (0, vR x0)]) 2 dX10_notNought_29 rfl (by decide) rfl ?_
      refine e_goto (tgt := 4) dX10_notNought_32 (by decide) ?_
      exact e_sub (ls2 := [(0, vR x0), (1, vI (ior x1 (ishl 1 x2))), (2, vI (w32 (x2 + 1)))]) [2, 1, 0] rfl h

set_option maxRecDepth 100000 in
set_option maxHeartbeats 4000000 in
theorem bX10_look {G : Gl} {S : Sh} {I : MI} {R : MR} {Q : Sh → MI → MR → Int → Prop} {x0 : Nat} {x1 : Int} (h : (sT S x0 = 10 ∧ (∀ I2, I2 = up2 I x0 0 0 → ((x1 = 0 → Q S I2 R (I2 x0 1)) ∧ (¬ (x1 = 0) → ((x1 = 1 → Q S I2 R (I2 x0 2)) ∧ (¬ (x1 = 1) → ((x1 = 2 → (sT S (R x0 3) = 21 ∧ (((0 : Int) ≤ (w32 (x1 - 2)) ∧ (w32 (x1 - 2)) < (sL S (R x0 3) : Int)) ∧ Q S I2 R (I2 (R x0 3) (Int.toNat (w32 (x1 - 2))))))) ∧ (¬ (x1 = 2) → ((x1 = 3 → (sT S (R x0 3) = 21 ∧ (((0 : Int) ≤ (w32 (x1 - 2)) ∧ (w32 (x1 - 2)) < (sL S (R x0 3) : Int)) ∧ Q S I2 R (I2 (R x0 3) (Int.toNat (w32 (x1 - 2))))))) ∧ (¬ (x1 = 3) → ((x1 = 4 → (sT S (R x0 3) = 21 ∧ (((0 : Int) ≤ (w32 (x1 - 2)) ∧ (w32 (x1 - 2)) < (sL S (R x0 3) : Int)) ∧ Q S I2 R (I2 (R x0 3) (Int.toNat (w32 (x1 - 2))))))) ∧ (¬ (x1 = 4) → ((x1 = 5 → ((pX10_bound S x0) ∧ Q S I2 R (vX10_bound I2 x0))) ∧ (¬ (x1 = 5) → ((x1 = 6 → (CI G MX10_notNought [vR x0] S I2 R (fun S85 I85 R85 x85_ => Q S85 I85 R85 x85_))) ∧ (¬ (x1 = 6) → ((x1 = 7 → Q S I2 R (I2 x0 11)) ∧ (¬ (x1 = 7) → ((x1 = 8 → (((I2 x0 20) = 0 → Q S I2 R 0) ∧ (¬ ((I2 x0 20) = 0) → Q S I2 R 1))) ∧ (¬ (x1 = 8) → ((x1 = 9 → (((I2 x0 20) = 0 → Q S I2 R (-1)) ∧ (¬ ((I2 x0 20) = 0) → Q S I2 R (I2 x0 21)))) ∧ (¬ (x1 = 9) → ((x1 ≠ 10 → Q S I2 R (-1)) ∧ (¬ (x1 ≠ 10) → (((I2 x0 20) = 0 → Q S I2 R (-1)) ∧ (¬ ((I2 x0 20) = 0) → Q S I2 R (I2 x0 22)))))))))))))))))))))))))))) : CI G MX10_look [vR x0, vI x1] S I R Q := by
  show E G MX10_look 0 [(0, vR x0), (1, vI x1)] [] S I R (qI Q)
  refine e_aload_n 0 dX10_look_0 rfl ?_
  refine e_iconst dX10_look_1 (by unfold InR; decide) ?_
  have o1 := h.1
  replace h := h.2
  obtain ⟨I2, eI2⟩ : ∃ z : MI, z = up2 I x0 0 0 := ⟨_, rfl⟩
  replace h := h I2 eI2
  refine e_putI dX10_look_2 flX10_65 rfl (Or.inl rfl) o1 (eqI eI2 ?_)
  refine e_iload_n 1 dX10_look_5 rfl ?_
  by_cases c0 : x1 = 0
  · replace h := h.1 c0
    refine e_tabIn (tgt := 60) dX10_look_6 0 c0 (by decide) rfl (by decide) ?_
    refine e_aload_n 0 dX10_look_60 rfl ?_
    refine e_getI dX10_look_61 flX10_7 rfl o1 ?_
    exact e_ireturn dX10_look_64 rfl ⟨_, rfl, h⟩
  · replace h := h.2 c0
    by_cases c1 : x1 = 1
    · replace h := h.1 c1
      refine e_tabIn (tgt := 65) dX10_look_6 1 c1 (by decide) rfl (by decide) ?_
      refine e_aload_n 0 dX10_look_65 rfl ?_
      refine e_getI dX10_look_66 flX10_13 rfl o1 ?_
      exact e_ireturn dX10_look_69 rfl ⟨_, rfl, h⟩
    · replace h := h.2 c1
      by_cases c2 : x1 = 2
      · replace h := h.1 c2
        refine e_tabIn (tgt := 70) dX10_look_6 2 c2 (by decide) rfl (by decide) ?_
        refine e_aload_n 0 dX10_look_70 rfl ?_
        refine e_getR dX10_look_71 flX10_16 rfl o1 ?_
        refine e_iload_n 1 dX10_look_74 rfl ?_
        refine e_iconst dX10_look_75 (by unfold InR; decide) ?_
        refine e_isub dX10_look_76 ?_
        have o2 := h.1
        replace h := h.2
        have o3 := h.1
        replace h := h.2
        refine e_iald dX10_look_77 o2 o3 ?_
        exact e_ireturn dX10_look_78 rfl ⟨_, rfl, h⟩
      · replace h := h.2 c2
        by_cases c3 : x1 = 3
        · replace h := h.1 c3
          refine e_tabIn (tgt := 70) dX10_look_6 3 c3 (by decide) rfl (by decide) ?_
          refine e_aload_n 0 dX10_look_70 rfl ?_
          refine e_getR dX10_look_71 flX10_16 rfl o1 ?_
          refine e_iload_n 1 dX10_look_74 rfl ?_
          refine e_iconst dX10_look_75 (by unfold InR; decide) ?_
          refine e_isub dX10_look_76 ?_
          have o4 := h.1
          replace h := h.2
          have o5 := h.1
          replace h := h.2
          refine e_iald dX10_look_77 o4 o5 ?_
          exact e_ireturn dX10_look_78 rfl ⟨_, rfl, h⟩
        · replace h := h.2 c3
          by_cases c4 : x1 = 4
          · replace h := h.1 c4
            refine e_tabIn (tgt := 70) dX10_look_6 4 c4 (by decide) rfl (by decide) ?_
            refine e_aload_n 0 dX10_look_70 rfl ?_
            refine e_getR dX10_look_71 flX10_16 rfl o1 ?_
            refine e_iload_n 1 dX10_look_74 rfl ?_
            refine e_iconst dX10_look_75 (by unfold InR; decide) ?_
            refine e_isub dX10_look_76 ?_
            have o6 := h.1
            replace h := h.2
            have o7 := h.1
            replace h := h.2
            refine e_iald dX10_look_77 o6 o7 ?_
            exact e_ireturn dX10_look_78 rfl ⟨_, rfl, h⟩
          · replace h := h.2 c4
            by_cases c5 : x1 = 5
            · replace h := h.1 c5
              refine e_tabIn (tgt := 79) dX10_look_6 5 c5 (by decide) rfl (by decide) ?_
              refine e_aload_n 0 dX10_look_79 rfl ?_
              have o8 := h.1
              replace h := h.2
              refine i_VI (μ' := MX10_bound) (ci := 9) (r := x0) (as := []) (st := []) rfl dX10_look_80 mOKX10_bound ⟨mlX10_313, imX10_bound, seX10_bound⟩ (by decide) (Nat.le_of_ble_eq_true rfl) rfl (Nat.le_of_ble_eq_true rfl) ⟨by decide, rfl⟩ o1 (sX10_bound o8 ?_)
              exact e_ireturn dX10_look_83 rfl ⟨_, rfl, h⟩
            · replace h := h.2 c5
              by_cases c6 : x1 = 6
              · replace h := h.1 c6
                refine e_tabIn (tgt := 84) dX10_look_6 6 c6 (by decide) rfl (by decide) ?_
                refine e_aload_n 0 dX10_look_84 rfl ?_
                refine i_VI (μ' := MX10_notNought) (ci := 9) (r := x0) (as := []) (st := []) rfl dX10_look_85 mOKX10_notNought ⟨mlX10_346, imX10_notNought, seX10_notNought⟩ (by decide) (Nat.le_of_ble_eq_true rfl) rfl (Nat.le_of_ble_eq_true rfl) ⟨by decide, rfl⟩ o1 (CI.mono h ?_)
                clear h
                intro S85 I85 R85 x85_ h
                exact e_ireturn dX10_look_88 rfl ⟨_, rfl, h⟩
              · replace h := h.2 c6
                by_cases c7 : x1 = 7
                · replace h := h.1 c7
                  refine e_tabIn (tgt := 89) dX10_look_6 7 c7 (by decide) rfl (by decide) ?_
                  refine e_aload_n 0 dX10_look_89 rfl ?_
                  refine e_getI dX10_look_90 flX10_137 rfl o1 ?_
                  exact e_ireturn dX10_look_93 rfl ⟨_, rfl, h⟩
                · replace h := h.2 c7
                  by_cases c8 : x1 = 8
                  · replace h := h.1 c8
                    refine e_tabIn (tgt := 94) dX10_look_6 8 c8 (by decide) rfl (by decide) ?_
                    refine e_aload_n 0 dX10_look_94 rfl ?_
                    refine e_getI dX10_look_95 flX10_120 rfl o1 ?_
                    refine e_if_eq (tgt := 105) dX10_look_98 (by decide) (fun c => ?_) (fun c => ?_)
                    · replace h := h.1 c
                      refine e_iconst dX10_look_105 (by unfold InR; decide) ?_
                      exact e_ireturn dX10_look_106 rfl ⟨_, rfl, h⟩
                    · replace h := h.2 c
                      refine e_iconst dX10_look_101 (by unfold InR; decide) ?_
                      refine e_goto (tgt := 106) dX10_look_102 (by decide) ?_
                      exact e_ireturn dX10_look_106 rfl ⟨_, rfl, h⟩
                  · replace h := h.2 c8
                    by_cases c9 : x1 = 9
                    · replace h := h.1 c9
                      refine e_tabIn (tgt := 107) dX10_look_6 9 c9 (by decide) rfl (by decide) ?_
                      refine e_aload_n 0 dX10_look_107 rfl ?_
                      refine e_getI dX10_look_108 flX10_120 rfl o1 ?_
                      refine e_if_eq (tgt := 121) dX10_look_111 (by decide) (fun c => ?_) (fun c => ?_)
                      · replace h := h.1 c
                        refine e_iconst dX10_look_121 (by unfold InR; decide) ?_
                        exact e_ireturn dX10_look_122 rfl ⟨_, rfl, h⟩
                      · replace h := h.2 c
                        refine e_aload_n 0 dX10_look_114 rfl ?_
                        refine e_getI dX10_look_115 flX10_258 rfl o1 ?_
                        refine e_goto (tgt := 122) dX10_look_118 (by decide) ?_
                        exact e_ireturn dX10_look_122 rfl ⟨_, rfl, h⟩
                    · replace h := h.2 c9
                      refine e_tabOut (tgt := 123) dX10_look_6 (by omega) (by decide) ?_
                      refine e_iload_n 1 dX10_look_123 rfl ?_
                      refine e_bipush (x := 10) dX10_look_124 ⟨by decide +kernel, by unfold InR; decide⟩ ?_
                      refine e_icmp_ne (tgt := 147) dX10_look_126 (by decide) (fun c => ?_) (fun c => ?_)
                      · replace h := h.1 c
                        refine e_iconst dX10_look_147 (by unfold InR; decide) ?_
                        exact e_ireturn dX10_look_148 rfl ⟨_, rfl, h⟩
                      · replace h := h.2 c
                        refine e_aload_n 0 dX10_look_129 rfl ?_
                        refine e_getI dX10_look_130 flX10_120 rfl o1 ?_
                        refine e_if_eq (tgt := 143) dX10_look_133 (by decide) (fun c => ?_) (fun c => ?_)
                        · replace h := h.1 c
                          refine e_iconst dX10_look_143 (by unfold InR; decide) ?_
                          refine e_goto (tgt := 148) dX10_look_144 (by decide) ?_
                          exact e_ireturn dX10_look_148 rfl ⟨_, rfl, h⟩
                        · replace h := h.2 c
                          refine e_aload_n 0 dX10_look_136 rfl ?_
                          refine e_getI dX10_look_137 flX10_261 rfl o1 ?_
                          refine e_goto (tgt := 148) dX10_look_140 (by decide) ?_
                          exact e_ireturn dX10_look_148 rfl ⟨_, rfl, h⟩
