def LL_law_18 (G : Gl) (x1 : Nat) (x2 : Nat) (x3 : Int) (S : Sh) (I : MI) (R : MR) (Q : PQ) : Prop := E G M_law 18 [(0, vS), (1, vR x1), (2, vR x2), (3, vI x3)] [] S I R Q
set_option maxRecDepth 100000 in
set_option maxHeartbeats 4000000 in
theorem bL_law {G : Gl} {S : Sh} {I : MI} {R : MR} {Q : PQ}  (h : (∀ S0 I0 R0, S0 = shNew S 9 0 11 → I0 = mNew I (sN S) 0 → R0 = mNew R (sN S) 0 → (sT S0 (sN S) ≠ 0 ∧ (CV G MX9_init [vR (sN S)] S0 I0 R0 (fun S4 I4 R4 => (∀ S8 I8 R8, S8 = shNew S4 10 0 32 → I8 = mNew I4 (sN S4) 0 → R8 = mNew R4 (sN S4) 0 → (sT S8 (sN S4) ≠ 0 ∧ (CV G MX10_init [vR (sN S4)] S8 I8 R8 (fun S12 I12 R12 => LL_law_18 G (sN S) (sN S4) 0 S12 I12 R12 Q))))))))) : E G M_law 0 [(0, vS)] [] S I R Q := by
  show E G M_law 0 [(0, vS)] [] S I R Q
  obtain ⟨S0, eS0⟩ : ∃ z : Sh, z = shNew S 9 0 11 := ⟨_, rfl⟩
  obtain ⟨I0, eI0⟩ : ∃ z : MI, z = mNew I (sN S) 0 := ⟨_, rfl⟩
  obtain ⟨R0, eR0⟩ : ∃ z : MR, z = mNew R (sN S) 0 := ⟨_, rfl⟩
  replace h := h S0 I0 R0 eS0 eI0 eR0
  refine e_new (ci := 8) dL_law_0 (by decide) ⟨clL_7, is8, ii8⟩ (eqS eS0 (eqI eI0 (eqR eR0 ?_)))
  refine e_dup dL_law_3 rfl ?_
  have o1 := h.1
  replace h := h.2
  refine i_IV (μ' := MX9_init) (r := (sN S)) (as := []) (st := [vR (sN S)]) rfl dL_law_4 mOKX9_init ⟨mlL_9, imX9_init⟩ ⟨rfl, rfl⟩ (by decide) (Nat.le_of_ble_eq_true rfl) rfl (Nat.le_of_ble_eq_true rfl) o1 (CV.mono h ?_)
  clear h
  intro S4 I4 R4 h
  refine e_astore_n (ls2 := [(1, vR (sN S)), (0, vS)]) dL_law_7 (by decide) rfl ?_
  obtain ⟨S8, eS8⟩ : ∃ z : Sh, z = shNew S4 10 0 32 := ⟨_, rfl⟩
  obtain ⟨I8, eI8⟩ : ∃ z : MI, z = mNew I4 (sN S4) 0 := ⟨_, rfl⟩
  obtain ⟨R8, eR8⟩ : ∃ z : MR, z = mNew R4 (sN S4) 0 := ⟨_, rfl⟩
  replace h := h S8 I8 R8 eS8 eI8 eR8
  refine e_new (ci := 9) dL_law_8 (by decide) ⟨clL_10, is9, ii9⟩ (eqS eS8 (eqI eI8 (eqR eR8 ?_)))
  refine e_dup dL_law_11 rfl ?_
  have o2 := h.1
  replace h := h.2
  refine i_IV (μ' := MX10_init) (r := (sN S4)) (as := []) (st := [vR (sN S4)]) rfl dL_law_12 mOKX10_init ⟨mlL_12, imX10_init⟩ ⟨rfl, rfl⟩ (by decide) (Nat.le_of_ble_eq_true rfl) rfl (Nat.le_of_ble_eq_true rfl) o2 (CV.mono h ?_)
  clear h
  intro S12 I12 R12 h
  refine e_astore_n (ls2 := [(2, vR (sN S4)), (1, vR (sN S)), (0, vS)]) dL_law_15 (by decide) rfl ?_
  refine e_iconst dL_law_16 (by unfold InR; decide) ?_
  refine e_istore_n (ls2 := [(3, vI 0), (2, vR (sN S4)), (1, vR (sN S)), (0, vS)]) dL_law_17 (by decide) rfl ?_
  exact e_sub (ls2 := [(0, vS), (1, vR (sN S)), (2, vR (sN S4)), (3, vI 0)]) [3, 2, 1, 0] rfl h
set_option maxRecDepth 100000 in
set_option maxHeartbeats 4000000 in
theorem bL_law_18 {G : Gl} {S : Sh} {I : MI} {R : MR} {Q : PQ} {x1 : Nat} {x2 : Nat} {x3 : Int} (h : (gL G ≤ 3072 ∧ (((w32 ((gL G : Int) - 6)) < x3 → Q S I R (vI 1)) ∧ (¬ ((w32 ((gL G : Int) - 6)) < x3) → (((0 : Int) ≤ x3 ∧ x3 < (gL G : Int)) ∧ (((iand ((gX G (Int.toNat x3)).toInt) 31) = 0 → (((0 : Int) ≤ (w32 (x3 + 1)) ∧ (w32 (x3 + 1)) < (gL G : Int)) ∧ (((0 : Int) ≤ (w32 (x3 + 2)) ∧ (w32 (x3 + 2)) < (gL G : Int)) ∧ (sT S x1 = 9 ∧ (CI G MX9_ring [vR x1, vI ((gX G (Int.toNat (w32 (x3 + 1)))).toInt), vI ((gX G (Int.toNat (w32 (x3 + 2)))).toInt)] S I R (fun S155 I155 R155 x155_ => (sT S155 x2 = 10 ∧ (CI G MX10_ring [vR x2, vI ((gX G (Int.toNat (w32 (x3 + 1)))).toInt), vI ((gX G (Int.toNat (w32 (x3 + 2)))).toInt)] S155 I155 R155 (fun S169 I169 R169 x169_ => ((x155_ = x169_ → LL_law_18 G x1 x2 (w32 (x3 + 6)) S169 I169 R169 Q) ∧ (¬ (x155_ = x169_) → Q S169 I169 R169 (vI 0)))))))))))) ∧ (¬ ((iand ((gX G (Int.toNat x3)).toInt) 31) = 0) → (((iand ((gX G (Int.toNat x3)).toInt) 31) = 1 → (((0 : Int) ≤ (w32 (x3 + 1)) ∧ (w32 (x3 + 1)) < (gL G : Int)) ∧ (((0 : Int) ≤ (w32 (x3 + 2)) ∧ (w32 (x3 + 2)) < (gL G : Int)) ∧ (((0 : Int) ≤ (w32 (x3 + 3)) ∧ (w32 (x3 + 3)) < (gL G : Int)) ∧ (sT S x1 = 9 ∧ (CI G MX9_weights [vR x1, vI ((gX G (Int.toNat (w32 (x3 + 1)))).toInt), vI ((gX G (Int.toNat (w32 (x3 + 2)))).toInt), vI ((gX G (Int.toNat (w32 (x3 + 3)))).toInt)] S I R (fun S193 I193 R193 x193_ => (sT S193 x2 = 10 ∧ (CI G MX10_weights [vR x2, vI ((gX G (Int.toNat (w32 (x3 + 1)))).toInt), vI ((gX G (Int.toNat (w32 (x3 + 2)))).toInt), vI ((gX G (Int.toNat (w32 (x3 + 3)))).toInt)] S193 I193 R193 (fun S212 I212 R212 x212_ => ((x193_ = x212_ → LL_law_18 G x1 x2 (w32 (x3 + 6)) S212 I212 R212 Q) ∧ (¬ (x193_ = x212_) → Q S212 I212 R212 (vI 0))))))))))))) ∧ (¬ ((iand ((gX G (Int.toNat x3)).toInt) 31) = 1) → (((iand ((gX G (Int.toNat x3)).toInt) 31) = 2 → (((0 : Int) ≤ (w32 (x3 + 1)) ∧ (w32 (x3 + 1)) < (gL G : Int)) ∧ (((0 : Int) ≤ (w32 (x3 + 2)) ∧ (w32 (x3 + 2)) < (gL G : Int)) ∧ (((0 : Int) ≤ (w32 (x3 + 3)) ∧ (w32 (x3 + 3)) < (gL G : Int)) ∧ (((0 : Int) ≤ (w32 (x3 + 4)) ∧ (w32 (x3 + 4)) < (gL G : Int)) ∧ (((0 : Int) ≤ (w32 (x3 + 5)) ∧ (w32 (x3 + 5)) < (gL G : Int)) ∧ (sT S x1 = 9 ∧ (CI G MX9_feed [vR x1, vI ((gX G (Int.toNat (w32 (x3 + 1)))).toInt), vI ((gX G (Int.toNat (w32 (x3 + 2)))).toInt), vI ((gX G (Int.toNat (w32 (x3 + 3)))).toInt), vI ((gX G (Int.toNat (w32 (x3 + 4)))).toInt), vI ((gX G (Int.toNat (w32 (x3 + 5)))).toInt)] S I R (fun S246 I246 R246 x246_ => (sT S246 x2 = 10 ∧ (CI G MX10_feed [vR x2, vI ((gX G (Int.toNat (w32 (x3 + 1)))).toInt), vI ((gX G (Int.toNat (w32 (x3 + 2)))).toInt), vI ((gX G (Int.toNat (w32 (x3 + 3)))).toInt), vI ((gX G (Int.toNat (w32 (x3 + 4)))).toInt), vI ((gX G (Int.toNat (w32 (x3 + 5)))).toInt)] S246 I246 R246 (fun S275 I275 R275 x275_ => ((x246_ = x275_ → LL_law_18 G x1 x2 (w32 (x3 + 6)) S275 I275 R275 Q) ∧ (¬ (x246_ = x275_) → Q S275 I275 R275 (vI 0))))))))))))))) ∧ (¬ ((iand ((gX G (Int.toNat x3)).toInt) 31) = 2) → (((iand ((gX G (Int.toNat x3)).toInt) 31) = 3 → (((0 : Int) ≤ (w32 (x3 + 1)) ∧ (w32 (x3 + 1)) < (gL G : Int)) ∧ (sT S x1 = 9 ∧ (CI G MX9_end [vR x1, vI ((gX G (Int.toNat (w32 (x3 + 1)))).toInt)] S I R (fun S289 I289 R289 x289_ => (sT S289 x2 = 10 ∧ (CI G MX10_end [vR x2, vI ((gX G (Int.toNat (w32 (x3 + 1)))).toInt)] S289 I289 R289 (fun S298 I298 R298 x298_ => ((x289_ = x298_ → LL_law_18 G x1 x2 (w32 (x3 + 6)) S298 I298 R298 Q) ∧ (¬ (x289_ = x298_) → Q S298 I298 R298 (vI 0))))))))))) ∧ (¬ ((iand ((gX G (Int.toNat x3)).toInt) 31) = 3) → (((iand ((gX G (Int.toNat x3)).toInt) 31) = 4 → (((0 : Int) ≤ (w32 (x3 + 1)) ∧ (w32 (x3 + 1)) < (gL G : Int)) ∧ (sT S x1 = 9 ∧ (CI G MX9_poly [vR x1, vI ((gX G (Int.toNat (w32 (x3 + 1)))).toInt)] S I R (fun S312 I312 R312 x312_ => (sT S312 x2 = 10 ∧ (CI G MX10_poly [vR x2, vI ((gX G (Int.toNat (w32 (x3 + 1)))).toInt)] S312 I312 R312 (fun S321 I321 R321 x321_ => ((x312_ = x321_ → LL_law_18 G x1 x2 (w32 (x3 + 6)) S321 I321 R321 Q) ∧ (¬ (x312_ = x321_) → Q S321 I321 R321 (vI 0))))))))))) ∧ (¬ ((iand ((gX G (Int.toNat x3)).toInt) 31) = 4) → (((iand ((gX G (Int.toNat x3)).toInt) 31) = 5 → (((0 : Int) ≤ (w32 (x3 + 1)) ∧ (w32 (x3 + 1)) < (gL G : Int)) ∧ (sT S x1 = 9 ∧ ((pX9_fault S R x1 ((gX G (Int.toNat (w32 (x3 + 1)))).toInt)) ∧ (sT S x2 = 10 ∧ (CI G MX10_fault [vR x2, vI ((gX G (Int.toNat (w32 (x3 + 1)))).toInt)] S I R (fun S344 I344 R344 x344_ => (((vX9_fault I R x1 ((gX G (Int.toNat (w32 (x3 + 1)))).toInt)) = x344_ → LL_law_18 G x1 x2 (w32 (x3 + 6)) S344 I344 R344 Q) ∧ (¬ ((vX9_fault I R x1 ((gX G (Int.toNat (w32 (x3 + 1)))).toInt)) = x344_) → Q S344 I344 R344 (vI 0)))))))))) ∧ (¬ ((iand ((gX G (Int.toNat x3)).toInt) 31) = 5) → (((iand ((gX G (Int.toNat x3)).toInt) 31) = 6 → (((0 : Int) ≤ (w32 (x3 + 1)) ∧ (w32 (x3 + 1)) < (gL G : Int)) ∧ (sT S x1 = 9 ∧ (CI G MX9_show [vR x1, vI ((gX G (Int.toNat (w32 (x3 + 1)))).toInt)] S I R (fun S358 I358 R358 x358_ => (sT S358 x2 = 10 ∧ (CI G MX10_show [vR x2, vI ((gX G (Int.toNat (w32 (x3 + 1)))).toInt)] S358 I358 R358 (fun S367 I367 R367 x367_ => ((x358_ = x367_ → LL_law_18 G x1 x2 (w32 (x3 + 6)) S367 I367 R367 Q) ∧ (¬ (x358_ = x367_) → Q S367 I367 R367 (vI 0))))))))))) ∧ (¬ ((iand ((gX G (Int.toNat x3)).toInt) 31) = 6) → (((iand ((gX G (Int.toNat x3)).toInt) 31) = 7 → (((0 : Int) ≤ (w32 (x3 + 1)) ∧ (w32 (x3 + 1)) < (gL G : Int)) ∧ (sT S x1 = 9 ∧ ((pX9_out S I R x1 ((gX G (Int.toNat (w32 (x3 + 1)))).toInt)) ∧ (sT S x2 = 10 ∧ (CI G MX10_out [vR x2, vI ((gX G (Int.toNat (w32 (x3 + 1)))).toInt)] S I R (fun S390 I390 R390 x390_ => (((vX9_out I R x1 ((gX G (Int.toNat (w32 (x3 + 1)))).toInt)) = x390_ → LL_law_18 G x1 x2 (w32 (x3 + 6)) S390 I390 R390 Q) ∧ (¬ ((vX9_out I R x1 ((gX G (Int.toNat (w32 (x3 + 1)))).toInt)) = x390_) → Q S390 I390 R390 (vI 0)))))))))) ∧ (¬ ((iand ((gX G (Int.toNat x3)).toInt) 31) = 7) → (((iand ((gX G (Int.toNat x3)).toInt) 31) = 8 → (((0 : Int) ≤ (w32 (x3 + 1)) ∧ (w32 (x3 + 1)) < (gL G : Int)) ∧ (((0 : Int) ≤ (w32 (x3 + 2)) ∧ (w32 (x3 + 2)) < (gL G : Int)) ∧ (((0 : Int) ≤ (w32 (x3 + 3)) ∧ (w32 (x3 + 3)) < (gL G : Int)) ∧ (sT S x1 = 9 ∧ ((pX9_term S I R x1 ((gX G (Int.toNat (w32 (x3 + 1)))).toInt) ((gX G (Int.toNat (w32 (x3 + 2)))).toInt) ((gX G (Int.toNat (w32 (x3 + 3)))).toInt)) ∧ (sT S x2 = 10 ∧ (CI G MX10_term [vR x2, vI ((gX G (Int.toNat (w32 (x3 + 1)))).toInt), vI ((gX G (Int.toNat (w32 (x3 + 2)))).toInt), vI ((gX G (Int.toNat (w32 (x3 + 3)))).toInt)] S I R (fun S433 I433 R433 x433_ => (((vX9_term I R x1 ((gX G (Int.toNat (w32 (x3 + 1)))).toInt) ((gX G (Int.toNat (w32 (x3 + 2)))).toInt) ((gX G (Int.toNat (w32 (x3 + 3)))).toInt)) = x433_ → LL_law_18 G x1 x2 (w32 (x3 + 6)) S433 I433 R433 Q) ∧ (¬ ((vX9_term I R x1 ((gX G (Int.toNat (w32 (x3 + 1)))).toInt) ((gX G (Int.toNat (w32 (x3 + 2)))).toInt) ((gX G (Int.toNat (w32 (x3 + 3)))).toInt)) = x433_) → Q S433 I433 R433 (vI 0)))))))))))) ∧ (¬ ((iand ((gX G (Int.toNat x3)).toInt) 31) = 8) → (((iand ((gX G (Int.toNat x3)).toInt) 31) = 9 → (((0 : Int) ≤ (w32 (x3 + 1)) ∧ (w32 (x3 + 1)) < (gL G : Int)) ∧ (((0 : Int) ≤ (w32 (x3 + 2)) ∧ (w32 (x3 + 2)) < (gL G : Int)) ∧ (sT S x1 = 9 ∧ ((pX9_shape S I R x1 ((gX G (Int.toNat (w32 (x3 + 1)))).toInt) ((gX G (Int.toNat (w32 (x3 + 2)))).toInt)) ∧ (sT S x2 = 10 ∧ (CI G MX10_shape [vR x2, vI ((gX G (Int.toNat (w32 (x3 + 1)))).toInt), vI ((gX G (Int.toNat (w32 (x3 + 2)))).toInt)] S I R (fun S466 I466 R466 x466_ => (((vX9_shape I R x1 ((gX G (Int.toNat (w32 (x3 + 1)))).toInt) ((gX G (Int.toNat (w32 (x3 + 2)))).toInt)) = x466_ → LL_law_18 G x1 x2 (w32 (x3 + 6)) S466 I466 R466 Q) ∧ (¬ ((vX9_shape I R x1 ((gX G (Int.toNat (w32 (x3 + 1)))).toInt) ((gX G (Int.toNat (w32 (x3 + 2)))).toInt)) = x466_) → Q S466 I466 R466 (vI 0))))))))))) ∧ (¬ ((iand ((gX G (Int.toNat x3)).toInt) 31) = 9) → (((iand ((gX G (Int.toNat x3)).toInt) 31) = 10 → (((0 : Int) ≤ (w32 (x3 + 1)) ∧ (w32 (x3 + 1)) < (gL G : Int)) ∧ (((0 : Int) ≤ (w32 (x3 + 2)) ∧ (w32 (x3 + 2)) < (gL G : Int)) ∧ (((0 : Int) ≤ (w32 (x3 + 3)) ∧ (w32 (x3 + 3)) < (gL G : Int)) ∧ (((0 : Int) ≤ (w32 (x3 + 4)) ∧ (w32 (x3 + 4)) < (gL G : Int)) ∧ (sT S x1 = 9 ∧ (CI G MX9_make [vR x1, vI ((gX G (Int.toNat (w32 (x3 + 1)))).toInt), vI ((gX G (Int.toNat (w32 (x3 + 2)))).toInt), vI ((gX G (Int.toNat (w32 (x3 + 3)))).toInt), vI ((gX G (Int.toNat (w32 (x3 + 4)))).toInt)] S I R (fun S495 I495 R495 x495_ => (sT S495 x2 = 10 ∧ (CI G MX10_make [vR x2, vI ((gX G (Int.toNat (w32 (x3 + 1)))).toInt), vI ((gX G (Int.toNat (w32 (x3 + 2)))).toInt), vI ((gX G (Int.toNat (w32 (x3 + 3)))).toInt), vI ((gX G (Int.toNat (w32 (x3 + 4)))).toInt)] S495 I495 R495 (fun S519 I519 R519 x519_ => ((x495_ = x519_ → LL_law_18 G x1 x2 (w32 (x3 + 6)) S519 I519 R519 Q) ∧ (¬ (x495_ = x519_) → Q S519 I519 R519 (vI 0)))))))))))))) ∧ (¬ ((iand ((gX G (Int.toNat x3)).toInt) 31) = 10) → (((iand ((gX G (Int.toNat x3)).toInt) 31) = 11 → (((0 : Int) ≤ (w32 (x3 + 1)) ∧ (w32 (x3 + 1)) < (gL G : Int)) ∧ (((0 : Int) ≤ (w32 (x3 + 2)) ∧ (w32 (x3 + 2)) < (gL G : Int)) ∧ (((0 : Int) ≤ (w32 (x3 + 3)) ∧ (w32 (x3 + 3)) < (gL G : Int)) ∧ (sT S x1 = 9 ∧ (CI G MX9_part [vR x1, vI ((gX G (Int.toNat (w32 (x3 + 1)))).toInt), vI ((gX G (Int.toNat (w32 (x3 + 2)))).toInt), vI ((gX G (Int.toNat (w32 (x3 + 3)))).toInt)] S I R (fun S543 I543 R543 x543_ => (sT S543 x2 = 10 ∧ (CI G MX10_part [vR x2, vI ((gX G (Int.toNat (w32 (x3 + 1)))).toInt), vI ((gX G (Int.toNat (w32 (x3 + 2)))).toInt), vI ((gX G (Int.toNat (w32 (x3 + 3)))).toInt)] S543 I543 R543 (fun S562 I562 R562 x562_ => ((x543_ = x562_ → LL_law_18 G x1 x2 (w32 (x3 + 6)) S562 I562 R562 Q) ∧ (¬ (x543_ = x562_) → Q S562 I562 R562 (vI 0))))))))))))) ∧ (¬ ((iand ((gX G (Int.toNat x3)).toInt) 31) = 11) → (((iand ((gX G (Int.toNat x3)).toInt) 31) = 12 → (((0 : Int) ≤ (w32 (x3 + 1)) ∧ (w32 (x3 + 1)) < (gL G : Int)) ∧ (((0 : Int) ≤ (w32 (x3 + 2)) ∧ (w32 (x3 + 2)) < (gL G : Int)) ∧ (sT S x1 = 9 ∧ (CI G MX9_weak [vR x1, vI ((gX G (Int.toNat (w32 (x3 + 1)))).toInt), vI ((gX G (Int.toNat (w32 (x3 + 2)))).toInt)] S I R (fun S581 I581 R581 x581_ => (sT S581 x2 = 10 ∧ (CI G MX10_weak [vR x2, vI ((gX G (Int.toNat (w32 (x3 + 1)))).toInt), vI ((gX G (Int.toNat (w32 (x3 + 2)))).toInt)] S581 I581 R581 (fun S595 I595 R595 x595_ => ((x581_ = x595_ → LL_law_18 G x1 x2 (w32 (x3 + 6)) S595 I595 R595 Q) ∧ (¬ (x581_ = x595_) → Q S595 I595 R595 (vI 0)))))))))))) ∧ (¬ ((iand ((gX G (Int.toNat x3)).toInt) 31) = 12) → (((iand ((gX G (Int.toNat x3)).toInt) 31) = 13 → (((0 : Int) ≤ (w32 (x3 + 1)) ∧ (w32 (x3 + 1)) < (gL G : Int)) ∧ (((0 : Int) ≤ (w32 (x3 + 2)) ∧ (w32 (x3 + 2)) < (gL G : Int)) ∧ (sT S x1 = 9 ∧ (CI G MX9_kept [vR x1, vI ((gX G (Int.toNat (w32 (x3 + 1)))).toInt), vI ((gX G (Int.toNat (w32 (x3 + 2)))).toInt)] S I R (fun S614 I614 R614 x614_ => (sT S614 x2 = 10 ∧ (CI G MX10_kept [vR x2, vI ((gX G (Int.toNat (w32 (x3 + 1)))).toInt), vI ((gX G (Int.toNat (w32 (x3 + 2)))).toInt)] S614 I614 R614 (fun S628 I628 R628 x628_ => ((x614_ = x628_ → LL_law_18 G x1 x2 (w32 (x3 + 6)) S628 I628 R628 Q) ∧ (¬ (x614_ = x628_) → Q S628 I628 R628 (vI 0)))))))))))) ∧ (¬ ((iand ((gX G (Int.toNat x3)).toInt) 31) = 13) → (((iand ((gX G (Int.toNat x3)).toInt) 31) = 14 → (((0 : Int) ≤ (w32 (x3 + 1)) ∧ (w32 (x3 + 1)) < (gL G : Int)) ∧ (((0 : Int) ≤ (w32 (x3 + 2)) ∧ (w32 (x3 + 2)) < (gL G : Int)) ∧ (sT S x1 = 9 ∧ ((pX9_step S I R x1 ((gX G (Int.toNat (w32 (x3 + 1)))).toInt) ((gX G (Int.toNat (w32 (x3 + 2)))).toInt)) ∧ (sT S x2 = 10 ∧ (CI G MX10_step [vR x2, vI ((gX G (Int.toNat (w32 (x3 + 1)))).toInt), vI ((gX G (Int.toNat (w32 (x3 + 2)))).toInt)] S I R (fun S661 I661 R661 x661_ => (((vX9_step I R x1 ((gX G (Int.toNat (w32 (x3 + 1)))).toInt) ((gX G (Int.toNat (w32 (x3 + 2)))).toInt)) = x661_ → LL_law_18 G x1 x2 (w32 (x3 + 6)) S661 I661 R661 Q) ∧ (¬ ((vX9_step I R x1 ((gX G (Int.toNat (w32 (x3 + 1)))).toInt) ((gX G (Int.toNat (w32 (x3 + 2)))).toInt)) = x661_) → Q S661 I661 R661 (vI 0))))))))))) ∧ (¬ ((iand ((gX G (Int.toNat x3)).toInt) 31) = 14) → (((iand ((gX G (Int.toNat x3)).toInt) 31) = 15 → (((0 : Int) ≤ (w32 (x3 + 1)) ∧ (w32 (x3 + 1)) < (gL G : Int)) ∧ (((0 : Int) ≤ (w32 (x3 + 2)) ∧ (w32 (x3 + 2)) < (gL G : Int)) ∧ (sT S x1 = 9 ∧ (CI G MX9_corners [vR x1, vI ((gX G (Int.toNat (w32 (x3 + 1)))).toInt), vI ((gX G (Int.toNat (w32 (x3 + 2)))).toInt)] S I R (fun S680 I680 R680 x680_ => (sT S680 x2 = 10 ∧ (CI G MX10_corners [vR x2, vI ((gX G (Int.toNat (w32 (x3 + 1)))).toInt), vI ((gX G (Int.toNat (w32 (x3 + 2)))).toInt)] S680 I680 R680 (fun S694 I694 R694 x694_ => ((x680_ = x694_ → LL_law_18 G x1 x2 (w32 (x3 + 6)) S694 I694 R694 Q) ∧ (¬ (x680_ = x694_) → Q S694 I694 R694 (vI 0)))))))))))) ∧ (¬ ((iand ((gX G (Int.toNat x3)).toInt) 31) = 15) → (((iand ((gX G (Int.toNat x3)).toInt) 31) = 16 → (((0 : Int) ≤ (w32 (x3 + 1)) ∧ (w32 (x3 + 1)) < (gL G : Int)) ∧ (((0 : Int) ≤ (w32 (x3 + 2)) ∧ (w32 (x3 + 2)) < (gL G : Int)) ∧ (((0 : Int) ≤ (w32 (x3 + 3)) ∧ (w32 (x3 + 3)) < (gL G : Int)) ∧ (((0 : Int) ≤ (w32 (x3 + 4)) ∧ (w32 (x3 + 4)) < (gL G : Int)) ∧ (sT S x1 = 9 ∧ (CI G MX9_corner [vR x1, vI ((gX G (Int.toNat (w32 (x3 + 1)))).toInt), vI ((gX G (Int.toNat (w32 (x3 + 2)))).toInt), vI ((gX G (Int.toNat (w32 (x3 + 3)))).toInt), vI ((gX G (Int.toNat (w32 (x3 + 4)))).toInt)] S I R (fun S723 I723 R723 x723_ => (sT S723 x2 = 10 ∧ (CI G MX10_corner [vR x2, vI ((gX G (Int.toNat (w32 (x3 + 1)))).toInt), vI ((gX G (Int.toNat (w32 (x3 + 2)))).toInt), vI ((gX G (Int.toNat (w32 (x3 + 3)))).toInt), vI ((gX G (Int.toNat (w32 (x3 + 4)))).toInt)] S723 I723 R723 (fun S747 I747 R747 x747_ => ((x723_ = x747_ → LL_law_18 G x1 x2 (w32 (x3 + 6)) S747 I747 R747 Q) ∧ (¬ (x723_ = x747_) → Q S747 I747 R747 (vI 0)))))))))))))) ∧ (¬ ((iand ((gX G (Int.toNat x3)).toInt) 31) = 16) → (((iand ((gX G (Int.toNat x3)).toInt) 31) = 17 → (((0 : Int) ≤ (w32 (x3 + 1)) ∧ (w32 (x3 + 1)) < (gL G : Int)) ∧ (((0 : Int) ≤ (w32 (x3 + 2)) ∧ (w32 (x3 + 2)) < (gL G : Int)) ∧ (((0 : Int) ≤ (w32 (x3 + 3)) ∧ (w32 (x3 + 3)) < (gL G : Int)) ∧ (sT S x1 = 9 ∧ (CI G MX9_stairs [vR x1, vI ((gX G (Int.toNat (w32 (x3 + 1)))).toInt), vI ((gX G (Int.toNat (w32 (x3 + 2)))).toInt), vI ((gX G (Int.toNat (w32 (x3 + 3)))).toInt)] S I R (fun S771 I771 R771 x771_ => (sT S771 x2 = 10 ∧ (CI G MX10_stairs [vR x2, vI ((gX G (Int.toNat (w32 (x3 + 1)))).toInt), vI ((gX G (Int.toNat (w32 (x3 + 2)))).toInt), vI ((gX G (Int.toNat (w32 (x3 + 3)))).toInt)] S771 I771 R771 (fun S790 I790 R790 x790_ => ((x771_ = x790_ → LL_law_18 G x1 x2 (w32 (x3 + 6)) S790 I790 R790 Q) ∧ (¬ (x771_ = x790_) → Q S790 I790 R790 (vI 0))))))))))))) ∧ (¬ ((iand ((gX G (Int.toNat x3)).toInt) 31) = 17) → (((iand ((gX G (Int.toNat x3)).toInt) 31) = 18 → (((0 : Int) ≤ (w32 (x3 + 1)) ∧ (w32 (x3 + 1)) < (gL G : Int)) ∧ (((0 : Int) ≤ (w32 (x3 + 2)) ∧ (w32 (x3 + 2)) < (gL G : Int)) ∧ (((0 : Int) ≤ (w32 (x3 + 3)) ∧ (w32 (x3 + 3)) < (gL G : Int)) ∧ (((0 : Int) ≤ (w32 (x3 + 4)) ∧ (w32 (x3 + 4)) < (gL G : Int)) ∧ (sT S x1 = 9 ∧ (CI G MX9_stair [vR x1, vI ((gX G (Int.toNat (w32 (x3 + 1)))).toInt), vI ((gX G (Int.toNat (w32 (x3 + 2)))).toInt), vI ((gX G (Int.toNat (w32 (x3 + 3)))).toInt), vI ((gX G (Int.toNat (w32 (x3 + 4)))).toInt)] S I R (fun S819 I819 R819 x819_ => (sT S819 x2 = 10 ∧ (CI G MX10_stair [vR x2, vI ((gX G (Int.toNat (w32 (x3 + 1)))).toInt), vI ((gX G (Int.toNat (w32 (x3 + 2)))).toInt), vI ((gX G (Int.toNat (w32 (x3 + 3)))).toInt), vI ((gX G (Int.toNat (w32 (x3 + 4)))).toInt)] S819 I819 R819 (fun S843 I843 R843 x843_ => ((x819_ = x843_ → LL_law_18 G x1 x2 (w32 (x3 + 6)) S843 I843 R843 Q) ∧ (¬ (x819_ = x843_) → Q S843 I843 R843 (vI 0)))))))))))))) ∧ (¬ ((iand ((gX G (Int.toNat x3)).toInt) 31) = 18) → (((iand ((gX G (Int.toNat x3)).toInt) 31) = 19 → (((0 : Int) ≤ (w32 (x3 + 1)) ∧ (w32 (x3 + 1)) < (gL G : Int)) ∧ (((0 : Int) ≤ (w32 (x3 + 2)) ∧ (w32 (x3 + 2)) < (gL G : Int)) ∧ (((0 : Int) ≤ (w32 (x3 + 3)) ∧ (w32 (x3 + 3)) < (gL G : Int)) ∧ (((0 : Int) ≤ (w32 (x3 + 4)) ∧ (w32 (x3 + 4)) < (gL G : Int)) ∧ (sT S x1 = 9 ∧ (CI G MX9_rest [vR x1, vI ((gX G (Int.toNat (w32 (x3 + 1)))).toInt), vI ((gX G (Int.toNat (w32 (x3 + 2)))).toInt), vI ((gX G (Int.toNat (w32 (x3 + 3)))).toInt), vI ((gX G (Int.toNat (w32 (x3 + 4)))).toInt)] S I R (fun S872 I872 R872 x872_ => (sT S872 x2 = 10 ∧ (CI G MX10_rest [vR x2, vI ((gX G (Int.toNat (w32 (x3 + 1)))).toInt), vI ((gX G (Int.toNat (w32 (x3 + 2)))).toInt), vI ((gX G (Int.toNat (w32 (x3 + 3)))).toInt), vI ((gX G (Int.toNat (w32 (x3 + 4)))).toInt)] S872 I872 R872 (fun S896 I896 R896 x896_ => ((x872_ = x896_ → LL_law_18 G x1 x2 (w32 (x3 + 6)) S896 I896 R896 Q) ∧ (¬ (x872_ = x896_) → Q S896 I896 R896 (vI 0)))))))))))))) ∧ (¬ ((iand ((gX G (Int.toNat x3)).toInt) 31) = 19) → (((iand ((gX G (Int.toNat x3)).toInt) 31) = 20 → (((0 : Int) ≤ (w32 (x3 + 1)) ∧ (w32 (x3 + 1)) < (gL G : Int)) ∧ (((0 : Int) ≤ (w32 (x3 + 2)) ∧ (w32 (x3 + 2)) < (gL G : Int)) ∧ (sT S x1 = 9 ∧ (CI G MX9_length [vR x1, vI ((gX G (Int.toNat (w32 (x3 + 1)))).toInt), vI ((gX G (Int.toNat (w32 (x3 + 2)))).toInt)] S I R (fun S915 I915 R915 x915_ => (sT S915 x2 = 10 ∧ (CI G MX10_length [vR x2, vI ((gX G (Int.toNat (w32 (x3 + 1)))).toInt), vI ((gX G (Int.toNat (w32 (x3 + 2)))).toInt)] S915 I915 R915 (fun S929 I929 R929 x929_ => ((x915_ = x929_ → LL_law_18 G x1 x2 (w32 (x3 + 6)) S929 I929 R929 Q) ∧ (¬ (x915_ = x929_) → Q S929 I929 R929 (vI 0)))))))))))) ∧ (¬ ((iand ((gX G (Int.toNat x3)).toInt) 31) = 20) → (((iand ((gX G (Int.toNat x3)).toInt) 31) = 21 → (((0 : Int) ≤ (w32 (x3 + 1)) ∧ (w32 (x3 + 1)) < (gL G : Int)) ∧ (((0 : Int) ≤ (w32 (x3 + 2)) ∧ (w32 (x3 + 2)) < (gL G : Int)) ∧ (sT S x1 = 9 ∧ (CI G MX9_number [vR x1, vI ((gX G (Int.toNat (w32 (x3 + 1)))).toInt), vI ((gX G (Int.toNat (w32 (x3 + 2)))).toInt)] S I R (fun S948 I948 R948 x948_ => (sT S948 x2 = 10 ∧ (CI G MX10_number [vR x2, vI ((gX G (Int.toNat (w32 (x3 + 1)))).toInt), vI ((gX G (Int.toNat (w32 (x3 + 2)))).toInt)] S948 I948 R948 (fun S962 I962 R962 x962_ => ((x948_ = x962_ → LL_law_18 G x1 x2 (w32 (x3 + 6)) S962 I962 R962 Q) ∧ (¬ (x948_ = x962_) → Q S962 I962 R962 (vI 0)))))))))))) ∧ (¬ ((iand ((gX G (Int.toNat x3)).toInt) 31) = 21) → (((iand ((gX G (Int.toNat x3)).toInt) 31) = 22 → (((0 : Int) ≤ (w32 (x3 + 1)) ∧ (w32 (x3 + 1)) < (gL G : Int)) ∧ (((0 : Int) ≤ (w32 (x3 + 2)) ∧ (w32 (x3 + 2)) < (gL G : Int)) ∧ (sT S x1 = 9 ∧ ((pX9_all S I R x1 ((gX G (Int.toNat (w32 (x3 + 1)))).toInt) ((gX G (Int.toNat (w32 (x3 + 2)))).toInt)) ∧ (sT S x2 = 10 ∧ (CI G MX10_all [vR x2, vI ((gX G (Int.toNat (w32 (x3 + 1)))).toInt), vI ((gX G (Int.toNat (w32 (x3 + 2)))).toInt)] S I R (fun S995 I995 R995 x995_ => (((vX9_all I R x1 ((gX G (Int.toNat (w32 (x3 + 1)))).toInt) ((gX G (Int.toNat (w32 (x3 + 2)))).toInt)) = x995_ → LL_law_18 G x1 x2 (w32 (x3 + 6)) S995 I995 R995 Q) ∧ (¬ ((vX9_all I R x1 ((gX G (Int.toNat (w32 (x3 + 1)))).toInt) ((gX G (Int.toNat (w32 (x3 + 2)))).toInt)) = x995_) → Q S995 I995 R995 (vI 0))))))))))) ∧ (¬ ((iand ((gX G (Int.toNat x3)).toInt) 31) = 22) → (((iand ((gX G (Int.toNat x3)).toInt) 31) = 23 → (((0 : Int) ≤ (w32 (x3 + 1)) ∧ (w32 (x3 + 1)) < (gL G : Int)) ∧ (sT S x1 = 9 ∧ (CI G MX9_look [vR x1, vI ((gX G (Int.toNat (w32 (x3 + 1)))).toInt)] S I R (fun S1009 I1009 R1009 x1009_ => (sT S1009 x2 = 10 ∧ (CI G MX10_look [vR x2, vI ((gX G (Int.toNat (w32 (x3 + 1)))).toInt)] S1009 I1009 R1009 (fun S1018 I1018 R1018 x1018_ => ((x1009_ = x1018_ → LL_law_18 G x1 x2 (w32 (x3 + 6)) S1018 I1018 R1018 Q) ∧ (¬ (x1009_ = x1018_) → Q S1018 I1018 R1018 (vI 0))))))))))) ∧ (¬ ((iand ((gX G (Int.toNat x3)).toInt) 31) = 23) → LL_law_18 G x1 x2 (w32 (x3 + 6)) S I R Q))))))))))))))))))))))))))))))))))))))))))))))))))))) : LL_law_18 G x1 x2 x3 S I R Q := by
  show E G M_law 18 [(0, vS), (1, vR x1), (2, vR x2), (3, vI x3)] [] S I R Q
  refine e_iload_n 3 dL_law_18 rfl ?_
  refine e_aload_n 0 dL_law_19 rfl ?_
  have o3 := h.1
  replace h := h.2
  refine e_slenX dL_law_20 o3 ?_
  refine e_bipush (x := 6) dL_law_21 ⟨by decide +kernel, by unfold InR; decide⟩ ?_
  refine e_isub dL_law_23 ?_
  refine e_icmp_gt (tgt := 1032) dL_law_24 (by decide) (fun c => ?_) (fun c => ?_)
  · replace h := h.1 c
    refine e_iconst dL_law_1032 (by unfold InR; decide) ?_
    exact e_zreturn dL_law_1033 rfl (by decide) h
  · replace h := h.2 c
    refine e_aload_n 0 dL_law_27 rfl ?_
    refine e_iload_n 3 dL_law_28 rfl ?_
    have o4 := h.1
    replace h := h.2
    refine e_sld dL_law_29 o4 ?_
    refine e_bipush (x := 31) dL_law_30 ⟨by decide +kernel, by unfold InR; decide⟩ ?_
    refine e_iand dL_law_32 ?_
    by_cases c0 : (iand ((gX G (Int.toNat x3)).toInt) 31) = 0
    · replace h := h.1 c0
      refine e_tabIn (tgt := 144) dL_law_33 0 c0 (by decide) rfl (by decide) ?_
      refine e_aload_n 1 dL_law_144 rfl ?_
      refine e_aload_n 0 dL_law_145 rfl ?_
      refine e_iload_n 3 dL_law_146 rfl ?_
      refine e_iconst dL_law_147 (by unfold InR; decide) ?_
      refine e_iadd dL_law_148 ?_
      have o5 := h.1
      replace h := h.2
      refine e_sld dL_law_149 o5 ?_
      refine e_aload_n 0 dL_law_150 rfl ?_
      refine e_iload_n 3 dL_law_151 rfl ?_
      refine e_iconst dL_law_152 (by unfold InR; decide) ?_
      refine e_iadd dL_law_153 ?_
      have o6 := h.1
      replace h := h.2
      refine e_sld dL_law_154 o6 ?_
      have o7 := h.1
      replace h := h.2
      refine i_VI (μ' := MX9_ring) (ci := 8) (r := x1) (as := [vI ((gX G (Int.toNat (w32 (x3 + 1)))).toInt), vI ((gX G (Int.toNat (w32 (x3 + 2)))).toInt)]) (st := []) rfl dL_law_155 mOKX9_ring ⟨mlL_13, imX9_ring, seX9_ring⟩ (by decide) (Nat.le_of_ble_eq_true rfl) rfl (Nat.le_of_ble_eq_true rfl) ⟨by decide, rfl⟩ o7 (CI.mono h ?_)
      clear h
      intro S155 I155 R155 x155_ h
      refine e_aload_n 2 dL_law_158 rfl ?_
      refine e_aload_n 0 dL_law_159 rfl ?_
      refine e_iload_n 3 dL_law_160 rfl ?_
      refine e_iconst dL_law_161 (by unfold InR; decide) ?_
      refine e_iadd dL_law_162 ?_
      refine e_sld dL_law_163 o5 ?_
      refine e_aload_n 0 dL_law_164 rfl ?_
      refine e_iload_n 3 dL_law_165 rfl ?_
      refine e_iconst dL_law_166 (by unfold InR; decide) ?_
      refine e_iadd dL_law_167 ?_
      refine e_sld dL_law_168 o6 ?_
      have o8 := h.1
      replace h := h.2
      refine i_VI (μ' := MX10_ring) (ci := 9) (r := x2) (as := [vI ((gX G (Int.toNat (w32 (x3 + 1)))).toInt), vI ((gX G (Int.toNat (w32 (x3 + 2)))).toInt)]) (st := [vI x155_]) rfl dL_law_169 mOKX10_ring ⟨mlL_17, imX10_ring, seX10_ring⟩ (by decide) (Nat.le_of_ble_eq_true rfl) rfl (Nat.le_of_ble_eq_true rfl) ⟨by decide, rfl⟩ o8 (CI.mono h ?_)
      clear h
      intro S169 I169 R169 x169_ h
      refine e_icmp_eq (tgt := 1026) dL_law_172 (by decide) (fun c => ?_) (fun c => ?_)
      · replace h := h.1 c
        refine e_iinc (ls2 := [(3, vI (w32 (x3 + 6))), (0, vS), (1, vR x1), (2, vR x2)]) 3 dL_law_1026 rfl (by decide) rfl ?_
        refine e_goto (tgt := 18) dL_law_1029 (by decide) ?_
        exact e_sub (ls2 := [(0, vS), (1, vR x1), (2, vR x2), (3, vI (w32 (x3 + 6)))]) [1, 2, 3, 0] rfl h
      · replace h := h.2 c
        refine e_iconst dL_law_175 (by unfold InR; decide) ?_
        exact e_zreturn dL_law_176 rfl (by decide) h
    · replace h := h.2 c0
      by_cases c1 : (iand ((gX G (Int.toNat x3)).toInt) 31) = 1
      · replace h := h.1 c1
        refine e_tabIn (tgt := 177) dL_law_33 1 c1 (by decide) rfl (by decide) ?_
        refine e_aload_n 1 dL_law_177 rfl ?_
        refine e_aload_n 0 dL_law_178 rfl ?_
        refine e_iload_n 3 dL_law_179 rfl ?_
        refine e_iconst dL_law_180 (by unfold InR; decide) ?_
        refine e_iadd dL_law_181 ?_
        have o9 := h.1
        replace h := h.2
        refine e_sld dL_law_182 o9 ?_
        refine e_aload_n 0 dL_law_183 rfl ?_
        refine e_iload_n 3 dL_law_184 rfl ?_
        refine e_iconst dL_law_185 (by unfold InR; decide) ?_
        refine e_iadd dL_law_186 ?_
        have o10 := h.1
        replace h := h.2
        refine e_sld dL_law_187 o10 ?_
        refine e_aload_n 0 dL_law_188 rfl ?_
        refine e_iload_n 3 dL_law_189 rfl ?_
        refine e_iconst dL_law_190 (by unfold InR; decide) ?_
        refine e_iadd dL_law_191 ?_
        have o11 := h.1
        replace h := h.2
        refine e_sld dL_law_192 o11 ?_
        have o12 := h.1
        replace h := h.2
        refine i_VI (μ' := MX9_weights) (ci := 8) (r := x1) (as := [vI ((gX G (Int.toNat (w32 (x3 + 1)))).toInt), vI ((gX G (Int.toNat (w32 (x3 + 2)))).toInt), vI ((gX G (Int.toNat (w32 (x3 + 3)))).toInt)]) (st := []) rfl dL_law_193 mOKX9_weights ⟨mlL_18, imX9_weights, seX9_weights⟩ (by decide) (Nat.le_of_ble_eq_true rfl) rfl (Nat.le_of_ble_eq_true rfl) ⟨by decide, rfl⟩ o12 (CI.mono h ?_)
        clear h
        intro S193 I193 R193 x193_ h
        refine e_aload_n 2 dL_law_196 rfl ?_
        refine e_aload_n 0 dL_law_197 rfl ?_
        refine e_iload_n 3 dL_law_198 rfl ?_
        refine e_iconst dL_law_199 (by unfold InR; decide) ?_
        refine e_iadd dL_law_200 ?_
        refine e_sld dL_law_201 o9 ?_
        refine e_aload_n 0 dL_law_202 rfl ?_
        refine e_iload_n 3 dL_law_203 rfl ?_
        refine e_iconst dL_law_204 (by unfold InR; decide) ?_
        refine e_iadd dL_law_205 ?_
        refine e_sld dL_law_206 o10 ?_
        refine e_aload_n 0 dL_law_207 rfl ?_
        refine e_iload_n 3 dL_law_208 rfl ?_
        refine e_iconst dL_law_209 (by unfold InR; decide) ?_
        refine e_iadd dL_law_210 ?_
        refine e_sld dL_law_211 o11 ?_
        have o13 := h.1
        replace h := h.2
        refine i_VI (μ' := MX10_weights) (ci := 9) (r := x2) (as := [vI ((gX G (Int.toNat (w32 (x3 + 1)))).toInt), vI ((gX G (Int.toNat (w32 (x3 + 2)))).toInt), vI ((gX G (Int.toNat (w32 (x3 + 3)))).toInt)]) (st := [vI x193_]) rfl dL_law_212 mOKX10_weights ⟨mlL_22, imX10_weights, seX10_weights⟩ (by decide) (Nat.le_of_ble_eq_true rfl) rfl (Nat.le_of_ble_eq_true rfl) ⟨by decide, rfl⟩ o13 (CI.mono h ?_)
        clear h
        intro S212 I212 R212 x212_ h
        refine e_icmp_eq (tgt := 1026) dL_law_215 (by decide) (fun c => ?_) (fun c => ?_)
        · replace h := h.1 c
          refine e_iinc (ls2 := [(3, vI (w32 (x3 + 6))), (0, vS), (1, vR x1), (2, vR x2)]) 3 dL_law_1026 rfl (by decide) rfl ?_
          refine e_goto (tgt := 18) dL_law_1029 (by decide) ?_
          exact e_sub (ls2 := [(0, vS), (1, vR x1), (2, vR x2), (3, vI (w32 (x3 + 6)))]) [1, 2, 3, 0] rfl h
        · replace h := h.2 c
          refine e_iconst dL_law_218 (by unfold InR; decide) ?_
          exact e_zreturn dL_law_219 rfl (by decide) h
      · replace h := h.2 c1
        by_cases c2 : (iand ((gX G (Int.toNat x3)).toInt) 31) = 2
        · replace h := h.1 c2
          refine e_tabIn (tgt := 220) dL_law_33 2 c2 (by decide) rfl (by decide) ?_
          refine e_aload_n 1 dL_law_220 rfl ?_
          refine e_aload_n 0 dL_law_221 rfl ?_
          refine e_iload_n 3 dL_law_222 rfl ?_
          refine e_iconst dL_law_223 (by unfold InR; decide) ?_
          refine e_iadd dL_law_224 ?_
          have o14 := h.1
          replace h := h.2
          refine e_sld dL_law_225 o14 ?_
          refine e_aload_n 0 dL_law_226 rfl ?_
          refine e_iload_n 3 dL_law_227 rfl ?_
          refine e_iconst dL_law_228 (by unfold InR; decide) ?_
          refine e_iadd dL_law_229 ?_
          have o15 := h.1
          replace h := h.2
          refine e_sld dL_law_230 o15 ?_
          refine e_aload_n 0 dL_law_231 rfl ?_
          refine e_iload_n 3 dL_law_232 rfl ?_
          refine e_iconst dL_law_233 (by unfold InR; decide) ?_
          refine e_iadd dL_law_234 ?_
          have o16 := h.1
          replace h := h.2
          refine e_sld dL_law_235 o16 ?_
          refine e_aload_n 0 dL_law_236 rfl ?_
          refine e_iload_n 3 dL_law_237 rfl ?_
          refine e_iconst dL_law_238 (by unfold InR; decide) ?_
          refine e_iadd dL_law_239 ?_
          have o17 := h.1
          replace h := h.2
          refine e_sld dL_law_240 o17 ?_
          refine e_aload_n 0 dL_law_241 rfl ?_
          refine e_iload_n 3 dL_law_242 rfl ?_
          refine e_iconst dL_law_243 (by unfold InR; decide) ?_
          refine e_iadd dL_law_244 ?_
          have o18 := h.1
          replace h := h.2
          refine e_sld dL_law_245 o18 ?_
          have o19 := h.1
          replace h := h.2
          refine i_VI (μ' := MX9_feed) (ci := 8) (r := x1) (as := [vI ((gX G (Int.toNat (w32 (x3 + 1)))).toInt), vI ((gX G (Int.toNat (w32 (x3 + 2)))).toInt), vI ((gX G (Int.toNat (w32 (x3 + 3)))).toInt), vI ((gX G (Int.toNat (w32 (x3 + 4)))).toInt), vI ((gX G (Int.toNat (w32 (x3 + 5)))).toInt)]) (st := []) rfl dL_law_246 mOKX9_feed ⟨mlL_23, imX9_feed, seX9_feed⟩ (by decide) (Nat.le_of_ble_eq_true rfl) rfl (Nat.le_of_ble_eq_true rfl) ⟨by decide, rfl⟩ o19 (CI.mono h ?_)
          clear h
          intro S246 I246 R246 x246_ h
          refine e_aload_n 2 dL_law_249 rfl ?_
          refine e_aload_n 0 dL_law_250 rfl ?_
          refine e_iload_n 3 dL_law_251 rfl ?_
          refine e_iconst dL_law_252 (by unfold InR; decide) ?_
          refine e_iadd dL_law_253 ?_
          refine e_sld dL_law_254 o14 ?_
          refine e_aload_n 0 dL_law_255 rfl ?_
          refine e_iload_n 3 dL_law_256 rfl ?_
          refine e_iconst dL_law_257 (by unfold InR; decide) ?_
          refine e_iadd dL_law_258 ?_
          refine e_sld dL_law_259 o15 ?_
          refine e_aload_n 0 dL_law_260 rfl ?_
          refine e_iload_n 3 dL_law_261 rfl ?_
          refine e_iconst dL_law_262 (by unfold InR; decide) ?_
          refine e_iadd dL_law_263 ?_
          refine e_sld dL_law_264 o16 ?_
          refine e_aload_n 0 dL_law_265 rfl ?_
          refine e_iload_n 3 dL_law_266 rfl ?_
          refine e_iconst dL_law_267 (by unfold InR; decide) ?_
          refine e_iadd dL_law_268 ?_
          refine e_sld dL_law_269 o17 ?_
          refine e_aload_n 0 dL_law_270 rfl ?_
          refine e_iload_n 3 dL_law_271 rfl ?_
          refine e_iconst dL_law_272 (by unfold InR; decide) ?_
          refine e_iadd dL_law_273 ?_
          refine e_sld dL_law_274 o18 ?_
          have o20 := h.1
          replace h := h.2
          refine i_VI (μ' := MX10_feed) (ci := 9) (r := x2) (as := [vI ((gX G (Int.toNat (w32 (x3 + 1)))).toInt), vI ((gX G (Int.toNat (w32 (x3 + 2)))).toInt), vI ((gX G (Int.toNat (w32 (x3 + 3)))).toInt), vI ((gX G (Int.toNat (w32 (x3 + 4)))).toInt), vI ((gX G (Int.toNat (w32 (x3 + 5)))).toInt)]) (st := [vI x246_]) rfl dL_law_275 mOKX10_feed ⟨mlL_27, imX10_feed, seX10_feed⟩ (by decide) (Nat.le_of_ble_eq_true rfl) rfl (Nat.le_of_ble_eq_true rfl) ⟨by decide, rfl⟩ o20 (CI.mono h ?_)
          clear h
          intro S275 I275 R275 x275_ h
          refine e_icmp_eq (tgt := 1026) dL_law_278 (by decide) (fun c => ?_) (fun c => ?_)
          · replace h := h.1 c
            refine e_iinc (ls2 := [(3, vI (w32 (x3 + 6))), (0, vS), (1, vR x1), (2, vR x2)]) 3 dL_law_1026 rfl (by decide) rfl ?_
            refine e_goto (tgt := 18) dL_law_1029 (by decide) ?_
            exact e_sub (ls2 := [(0, vS), (1, vR x1), (2, vR x2), (3, vI (w32 (x3 + 6)))]) [1, 2, 3, 0] rfl h
          · replace h := h.2 c
            refine e_iconst dL_law_281 (by unfold InR; decide) ?_
            exact e_zreturn dL_law_282 rfl (by decide) h
        · replace h := h.2 c2
          by_cases c3 : (iand ((gX G (Int.toNat x3)).toInt) 31) = 3
          · replace h := h.1 c3
            refine e_tabIn (tgt := 283) dL_law_33 3 c3 (by decide) rfl (by decide) ?_
            refine e_aload_n 1 dL_law_283 rfl ?_
            refine e_aload_n 0 dL_law_284 rfl ?_
            refine e_iload_n 3 dL_law_285 rfl ?_
            refine e_iconst dL_law_286 (by unfold InR; decide) ?_
            refine e_iadd dL_law_287 ?_
            have o21 := h.1
            replace h := h.2
            refine e_sld dL_law_288 o21 ?_
            have o22 := h.1
            replace h := h.2
            refine i_VI (μ' := MX9_end) (ci := 8) (r := x1) (as := [vI ((gX G (Int.toNat (w32 (x3 + 1)))).toInt)]) (st := []) rfl dL_law_289 mOKX9_end ⟨mlL_28, imX9_end, seX9_end⟩ (by decide) (Nat.le_of_ble_eq_true rfl) rfl (Nat.le_of_ble_eq_true rfl) ⟨by decide, rfl⟩ o22 (CI.mono h ?_)
            clear h
            intro S289 I289 R289 x289_ h
            refine e_aload_n 2 dL_law_292 rfl ?_
            refine e_aload_n 0 dL_law_293 rfl ?_
            refine e_iload_n 3 dL_law_294 rfl ?_
            refine e_iconst dL_law_295 (by unfold InR; decide) ?_
            refine e_iadd dL_law_296 ?_
            refine e_sld dL_law_297 o21 ?_
            have o23 := h.1
            replace h := h.2
            refine i_VI (μ' := MX10_end) (ci := 9) (r := x2) (as := [vI ((gX G (Int.toNat (w32 (x3 + 1)))).toInt)]) (st := [vI x289_]) rfl dL_law_298 mOKX10_end ⟨mlL_32, imX10_end, seX10_end⟩ (by decide) (Nat.le_of_ble_eq_true rfl) rfl (Nat.le_of_ble_eq_true rfl) ⟨by decide, rfl⟩ o23 (CI.mono h ?_)
            clear h
            intro S298 I298 R298 x298_ h
            refine e_icmp_eq (tgt := 1026) dL_law_301 (by decide) (fun c => ?_) (fun c => ?_)
            · replace h := h.1 c
              refine e_iinc (ls2 := [(3, vI (w32 (x3 + 6))), (0, vS), (1, vR x1), (2, vR x2)]) 3 dL_law_1026 rfl (by decide) rfl ?_
              refine e_goto (tgt := 18) dL_law_1029 (by decide) ?_
              exact e_sub (ls2 := [(0, vS), (1, vR x1), (2, vR x2), (3, vI (w32 (x3 + 6)))]) [1, 2, 3, 0] rfl h
            · replace h := h.2 c
              refine e_iconst dL_law_304 (by unfold InR; decide) ?_
              exact e_zreturn dL_law_305 rfl (by decide) h
          · replace h := h.2 c3
            by_cases c4 : (iand ((gX G (Int.toNat x3)).toInt) 31) = 4
            · replace h := h.1 c4
              refine e_tabIn (tgt := 306) dL_law_33 4 c4 (by decide) rfl (by decide) ?_
              refine e_aload_n 1 dL_law_306 rfl ?_
              refine e_aload_n 0 dL_law_307 rfl ?_
              refine e_iload_n 3 dL_law_308 rfl ?_
              refine e_iconst dL_law_309 (by unfold InR; decide) ?_
              refine e_iadd dL_law_310 ?_
              have o24 := h.1
              replace h := h.2
              refine e_sld dL_law_311 o24 ?_
              have o25 := h.1
              replace h := h.2
              refine i_VI (μ' := MX9_poly) (ci := 8) (r := x1) (as := [vI ((gX G (Int.toNat (w32 (x3 + 1)))).toInt)]) (st := []) rfl dL_law_312 mOKX9_poly ⟨mlL_33, imX9_poly, seX9_poly⟩ (by decide) (Nat.le_of_ble_eq_true rfl) rfl (Nat.le_of_ble_eq_true rfl) ⟨by decide, rfl⟩ o25 (CI.mono h ?_)
              clear h
              intro S312 I312 R312 x312_ h
              refine e_aload_n 2 dL_law_315 rfl ?_
              refine e_aload_n 0 dL_law_316 rfl ?_
              refine e_iload_n 3 dL_law_317 rfl ?_
              refine e_iconst dL_law_318 (by unfold InR; decide) ?_
              refine e_iadd dL_law_319 ?_
              refine e_sld dL_law_320 o24 ?_
              have o26 := h.1
              replace h := h.2
              refine i_VI (μ' := MX10_poly) (ci := 9) (r := x2) (as := [vI ((gX G (Int.toNat (w32 (x3 + 1)))).toInt)]) (st := [vI x312_]) rfl dL_law_321 mOKX10_poly ⟨mlL_37, imX10_poly, seX10_poly⟩ (by decide) (Nat.le_of_ble_eq_true rfl) rfl (Nat.le_of_ble_eq_true rfl) ⟨by decide, rfl⟩ o26 (CI.mono h ?_)
              clear h
              intro S321 I321 R321 x321_ h
              refine e_icmp_eq (tgt := 1026) dL_law_324 (by decide) (fun c => ?_) (fun c => ?_)
              · replace h := h.1 c
                refine e_iinc (ls2 := [(3, vI (w32 (x3 + 6))), (0, vS), (1, vR x1), (2, vR x2)]) 3 dL_law_1026 rfl (by decide) rfl ?_
                refine e_goto (tgt := 18) dL_law_1029 (by decide) ?_
                exact e_sub (ls2 := [(0, vS), (1, vR x1), (2, vR x2), (3, vI (w32 (x3 + 6)))]) [1, 2, 3, 0] rfl h
              · replace h := h.2 c
                refine e_iconst dL_law_327 (by unfold InR; decide) ?_
                exact e_zreturn dL_law_328 rfl (by decide) h
            · replace h := h.2 c4
              by_cases c5 : (iand ((gX G (Int.toNat x3)).toInt) 31) = 5
              · replace h := h.1 c5
                refine e_tabIn (tgt := 329) dL_law_33 5 c5 (by decide) rfl (by decide) ?_
                refine e_aload_n 1 dL_law_329 rfl ?_
                refine e_aload_n 0 dL_law_330 rfl ?_
                refine e_iload_n 3 dL_law_331 rfl ?_
                refine e_iconst dL_law_332 (by unfold InR; decide) ?_
                refine e_iadd dL_law_333 ?_
                have o27 := h.1
                replace h := h.2
                refine e_sld dL_law_334 o27 ?_
                have o28 := h.1
                replace h := h.2
                have o29 := h.1
                replace h := h.2
                refine i_VI (μ' := MX9_fault) (ci := 8) (r := x1) (as := [vI ((gX G (Int.toNat (w32 (x3 + 1)))).toInt)]) (st := []) rfl dL_law_335 mOKX9_fault ⟨mlL_38, imX9_fault, seX9_fault⟩ (by decide) (Nat.le_of_ble_eq_true rfl) rfl (Nat.le_of_ble_eq_true rfl) ⟨by decide, rfl⟩ o28 (sX9_fault o29 ?_)
                refine e_aload_n 2 dL_law_338 rfl ?_
                refine e_aload_n 0 dL_law_339 rfl ?_
                refine e_iload_n 3 dL_law_340 rfl ?_
                refine e_iconst dL_law_341 (by unfold InR; decide) ?_
                refine e_iadd dL_law_342 ?_
                refine e_sld dL_law_343 o27 ?_
                have o30 := h.1
                replace h := h.2
                refine i_VI (μ' := MX10_fault) (ci := 9) (r := x2) (as := [vI ((gX G (Int.toNat (w32 (x3 + 1)))).toInt)]) (st := [vI (vX9_fault I R x1 ((gX G (Int.toNat (w32 (x3 + 1)))).toInt))]) rfl dL_law_344 mOKX10_fault ⟨mlL_41, imX10_fault, seX10_fault⟩ (by decide) (Nat.le_of_ble_eq_true rfl) rfl (Nat.le_of_ble_eq_true rfl) ⟨by decide, rfl⟩ o30 (CI.mono h ?_)
                clear h
                intro S344 I344 R344 x344_ h
                refine e_icmp_eq (tgt := 1026) dL_law_347 (by decide) (fun c => ?_) (fun c => ?_)
                · replace h := h.1 c
                  refine e_iinc (ls2 := [(3, vI (w32 (x3 + 6))), (0, vS), (1, vR x1), (2, vR x2)]) 3 dL_law_1026 rfl (by decide) rfl ?_
                  refine e_goto (tgt := 18) dL_law_1029 (by decide) ?_
                  exact e_sub (ls2 := [(0, vS), (1, vR x1), (2, vR x2), (3, vI (w32 (x3 + 6)))]) [1, 2, 3, 0] rfl h
                · replace h := h.2 c
                  refine e_iconst dL_law_350 (by unfold InR; decide) ?_
                  exact e_zreturn dL_law_351 rfl (by decide) h
              · replace h := h.2 c5
                by_cases c6 : (iand ((gX G (Int.toNat x3)).toInt) 31) = 6
                · replace h := h.1 c6
                  refine e_tabIn (tgt := 352) dL_law_33 6 c6 (by decide) rfl (by decide) ?_
                  refine e_aload_n 1 dL_law_352 rfl ?_
                  refine e_aload_n 0 dL_law_353 rfl ?_
                  refine e_iload_n 3 dL_law_354 rfl ?_
                  refine e_iconst dL_law_355 (by unfold InR; decide) ?_
                  refine e_iadd dL_law_356 ?_
                  have o31 := h.1
                  replace h := h.2
                  refine e_sld dL_law_357 o31 ?_
                  have o32 := h.1
                  replace h := h.2
                  refine i_VI (μ' := MX9_show) (ci := 8) (r := x1) (as := [vI ((gX G (Int.toNat (w32 (x3 + 1)))).toInt)]) (st := []) rfl dL_law_358 mOKX9_show ⟨mlL_42, imX9_show, seX9_show⟩ (by decide) (Nat.le_of_ble_eq_true rfl) rfl (Nat.le_of_ble_eq_true rfl) ⟨by decide, rfl⟩ o32 (CI.mono h ?_)
                  clear h
                  intro S358 I358 R358 x358_ h
                  refine e_aload_n 2 dL_law_361 rfl ?_
                  refine e_aload_n 0 dL_law_362 rfl ?_
                  refine e_iload_n 3 dL_law_363 rfl ?_
                  refine e_iconst dL_law_364 (by unfold InR; decide) ?_
                  refine e_iadd dL_law_365 ?_
                  refine e_sld dL_law_366 o31 ?_
                  have o33 := h.1
                  replace h := h.2
                  refine i_VI (μ' := MX10_show) (ci := 9) (r := x2) (as := [vI ((gX G (Int.toNat (w32 (x3 + 1)))).toInt)]) (st := [vI x358_]) rfl dL_law_367 mOKX10_show ⟨mlL_45, imX10_show, seX10_show⟩ (by decide) (Nat.le_of_ble_eq_true rfl) rfl (Nat.le_of_ble_eq_true rfl) ⟨by decide, rfl⟩ o33 (CI.mono h ?_)
                  clear h
                  intro S367 I367 R367 x367_ h
                  refine e_icmp_eq (tgt := 1026) dL_law_370 (by decide) (fun c => ?_) (fun c => ?_)
                  · replace h := h.1 c
                    refine e_iinc (ls2 := [(3, vI (w32 (x3 + 6))), (0, vS), (1, vR x1), (2, vR x2)]) 3 dL_law_1026 rfl (by decide) rfl ?_
                    refine e_goto (tgt := 18) dL_law_1029 (by decide) ?_
                    exact e_sub (ls2 := [(0, vS), (1, vR x1), (2, vR x2), (3, vI (w32 (x3 + 6)))]) [1, 2, 3, 0] rfl h
                  · replace h := h.2 c
                    refine e_iconst dL_law_373 (by unfold InR; decide) ?_
                    exact e_zreturn dL_law_374 rfl (by decide) h
                · replace h := h.2 c6
                  by_cases c7 : (iand ((gX G (Int.toNat x3)).toInt) 31) = 7
                  · replace h := h.1 c7
                    refine e_tabIn (tgt := 375) dL_law_33 7 c7 (by decide) rfl (by decide) ?_
                    refine e_aload_n 1 dL_law_375 rfl ?_
                    refine e_aload_n 0 dL_law_376 rfl ?_
                    refine e_iload_n 3 dL_law_377 rfl ?_
                    refine e_iconst dL_law_378 (by unfold InR; decide) ?_
                    refine e_iadd dL_law_379 ?_
                    have o34 := h.1
                    replace h := h.2
                    refine e_sld dL_law_380 o34 ?_
                    have o35 := h.1
                    replace h := h.2
                    have o36 := h.1
                    replace h := h.2
                    refine i_VI (μ' := MX9_out) (ci := 8) (r := x1) (as := [vI ((gX G (Int.toNat (w32 (x3 + 1)))).toInt)]) (st := []) rfl dL_law_381 mOKX9_out ⟨mlL_46, imX9_out, seX9_out⟩ (by decide) (Nat.le_of_ble_eq_true rfl) rfl (Nat.le_of_ble_eq_true rfl) ⟨by decide, rfl⟩ o35 (sX9_out o36 ?_)
                    refine e_aload_n 2 dL_law_384 rfl ?_
                    refine e_aload_n 0 dL_law_385 rfl ?_
                    refine e_iload_n 3 dL_law_386 rfl ?_
                    refine e_iconst dL_law_387 (by unfold InR; decide) ?_
                    refine e_iadd dL_law_388 ?_
                    refine e_sld dL_law_389 o34 ?_
                    have o37 := h.1
                    replace h := h.2
                    refine i_VI (μ' := MX10_out) (ci := 9) (r := x2) (as := [vI ((gX G (Int.toNat (w32 (x3 + 1)))).toInt)]) (st := [vI (vX9_out I R x1 ((gX G (Int.toNat (w32 (x3 + 1)))).toInt))]) rfl dL_law_390 mOKX10_out ⟨mlL_49, imX10_out, seX10_out⟩ (by decide) (Nat.le_of_ble_eq_true rfl) rfl (Nat.le_of_ble_eq_true rfl) ⟨by decide, rfl⟩ o37 (CI.mono h ?_)
                    clear h
                    intro S390 I390 R390 x390_ h
                    refine e_icmp_eq (tgt := 1026) dL_law_393 (by decide) (fun c => ?_) (fun c => ?_)
                    · replace h := h.1 c
                      refine e_iinc (ls2 := [(3, vI (w32 (x3 + 6))), (0, vS), (1, vR x1), (2, vR x2)]) 3 dL_law_1026 rfl (by decide) rfl ?_
                      refine e_goto (tgt := 18) dL_law_1029 (by decide) ?_
                      exact e_sub (ls2 := [(0, vS), (1, vR x1), (2, vR x2), (3, vI (w32 (x3 + 6)))]) [1, 2, 3, 0] rfl h
                    · replace h := h.2 c
                      refine e_iconst dL_law_396 (by unfold InR; decide) ?_
                      exact e_zreturn dL_law_397 rfl (by decide) h
                  · replace h := h.2 c7
                    by_cases c8 : (iand ((gX G (Int.toNat x3)).toInt) 31) = 8
                    · replace h := h.1 c8
                      refine e_tabIn (tgt := 398) dL_law_33 8 c8 (by decide) rfl (by decide) ?_
                      refine e_aload_n 1 dL_law_398 rfl ?_
                      refine e_aload_n 0 dL_law_399 rfl ?_
                      refine e_iload_n 3 dL_law_400 rfl ?_
                      refine e_iconst dL_law_401 (by unfold InR; decide) ?_
                      refine e_iadd dL_law_402 ?_
                      have o38 := h.1
                      replace h := h.2
                      refine e_sld dL_law_403 o38 ?_
                      refine e_aload_n 0 dL_law_404 rfl ?_
                      refine e_iload_n 3 dL_law_405 rfl ?_
                      refine e_iconst dL_law_406 (by unfold InR; decide) ?_
                      refine e_iadd dL_law_407 ?_
                      have o39 := h.1
                      replace h := h.2
                      refine e_sld dL_law_408 o39 ?_
                      refine e_aload_n 0 dL_law_409 rfl ?_
                      refine e_iload_n 3 dL_law_410 rfl ?_
                      refine e_iconst dL_law_411 (by unfold InR; decide) ?_
                      refine e_iadd dL_law_412 ?_
                      have o40 := h.1
                      replace h := h.2
                      refine e_sld dL_law_413 o40 ?_
                      have o41 := h.1
                      replace h := h.2
                      have o42 := h.1
                      replace h := h.2
                      refine i_VI (μ' := MX9_term) (ci := 8) (r := x1) (as := [vI ((gX G (Int.toNat (w32 (x3 + 1)))).toInt), vI ((gX G (Int.toNat (w32 (x3 + 2)))).toInt), vI ((gX G (Int.toNat (w32 (x3 + 3)))).toInt)]) (st := []) rfl dL_law_414 mOKX9_term ⟨mlL_50, imX9_term, seX9_term⟩ (by decide) (Nat.le_of_ble_eq_true rfl) rfl (Nat.le_of_ble_eq_true rfl) ⟨by decide, rfl⟩ o41 (sX9_term o42 ?_)
                      refine e_aload_n 2 dL_law_417 rfl ?_
                      refine e_aload_n 0 dL_law_418 rfl ?_
                      refine e_iload_n 3 dL_law_419 rfl ?_
                      refine e_iconst dL_law_420 (by unfold InR; decide) ?_
                      refine e_iadd dL_law_421 ?_
                      refine e_sld dL_law_422 o38 ?_
                      refine e_aload_n 0 dL_law_423 rfl ?_
                      refine e_iload_n 3 dL_law_424 rfl ?_
                      refine e_iconst dL_law_425 (by unfold InR; decide) ?_
                      refine e_iadd dL_law_426 ?_
                      refine e_sld dL_law_427 o39 ?_
                      refine e_aload_n 0 dL_law_428 rfl ?_
                      refine e_iload_n 3 dL_law_429 rfl ?_
                      refine e_iconst dL_law_430 (by unfold InR; decide) ?_
                      refine e_iadd dL_law_431 ?_
                      refine e_sld dL_law_432 o40 ?_
                      have o43 := h.1
                      replace h := h.2
                      refine i_VI (μ' := MX10_term) (ci := 9) (r := x2) (as := [vI ((gX G (Int.toNat (w32 (x3 + 1)))).toInt), vI ((gX G (Int.toNat (w32 (x3 + 2)))).toInt), vI ((gX G (Int.toNat (w32 (x3 + 3)))).toInt)]) (st := [vI (vX9_term I R x1 ((gX G (Int.toNat (w32 (x3 + 1)))).toInt) ((gX G (Int.toNat (w32 (x3 + 2)))).toInt) ((gX G (Int.toNat (w32 (x3 + 3)))).toInt))]) rfl dL_law_433 mOKX10_term ⟨mlL_54, imX10_term, seX10_term⟩ (by decide) (Nat.le_of_ble_eq_true rfl) rfl (Nat.le_of_ble_eq_true rfl) ⟨by decide, rfl⟩ o43 (CI.mono h ?_)
                      clear h
                      intro S433 I433 R433 x433_ h
                      refine e_icmp_eq (tgt := 1026) dL_law_436 (by decide) (fun c => ?_) (fun c => ?_)
                      · replace h := h.1 c
                        refine e_iinc (ls2 := [(3, vI (w32 (x3 + 6))), (0, vS), (1, vR x1), (2, vR x2)]) 3 dL_law_1026 rfl (by decide) rfl ?_
                        refine e_goto (tgt := 18) dL_law_1029 (by decide) ?_
                        exact e_sub (ls2 := [(0, vS), (1, vR x1), (2, vR x2), (3, vI (w32 (x3 + 6)))]) [1, 2, 3, 0] rfl h
                      · replace h := h.2 c
                        refine e_iconst dL_law_439 (by unfold InR; decide) ?_
                        exact e_zreturn dL_law_440 rfl (by decide) h
                    · replace h := h.2 c8
                      by_cases c9 : (iand ((gX G (Int.toNat x3)).toInt) 31) = 9
                      · replace h := h.1 c9
                        refine e_tabIn (tgt := 441) dL_law_33 9 c9 (by decide) rfl (by decide) ?_
                        refine e_aload_n 1 dL_law_441 rfl ?_
                        refine e_aload_n 0 dL_law_442 rfl ?_
                        refine e_iload_n 3 dL_law_443 rfl ?_
                        refine e_iconst dL_law_444 (by unfold InR; decide) ?_
                        refine e_iadd dL_law_445 ?_
                        have o44 := h.1
                        replace h := h.2
                        refine e_sld dL_law_446 o44 ?_
                        refine e_aload_n 0 dL_law_447 rfl ?_
                        refine e_iload_n 3 dL_law_448 rfl ?_
                        refine e_iconst dL_law_449 (by unfold InR; decide) ?_
                        refine e_iadd dL_law_450 ?_
                        have o45 := h.1
                        replace h := h.2
                        refine e_sld dL_law_451 o45 ?_
                        have o46 := h.1
                        replace h := h.2
                        have o47 := h.1
                        replace h := h.2
                        refine i_VI (μ' := MX9_shape) (ci := 8) (r := x1) (as := [vI ((gX G (Int.toNat (w32 (x3 + 1)))).toInt), vI ((gX G (Int.toNat (w32 (x3 + 2)))).toInt)]) (st := []) rfl dL_law_452 mOKX9_shape ⟨mlL_55, imX9_shape, seX9_shape⟩ (by decide) (Nat.le_of_ble_eq_true rfl) rfl (Nat.le_of_ble_eq_true rfl) ⟨by decide, rfl⟩ o46 (sX9_shape o47 ?_)
                        refine e_aload_n 2 dL_law_455 rfl ?_
                        refine e_aload_n 0 dL_law_456 rfl ?_
                        refine e_iload_n 3 dL_law_457 rfl ?_
                        refine e_iconst dL_law_458 (by unfold InR; decide) ?_
                        refine e_iadd dL_law_459 ?_
                        refine e_sld dL_law_460 o44 ?_
                        refine e_aload_n 0 dL_law_461 rfl ?_
                        refine e_iload_n 3 dL_law_462 rfl ?_
                        refine e_iconst dL_law_463 (by unfold InR; decide) ?_
                        refine e_iadd dL_law_464 ?_
                        refine e_sld dL_law_465 o45 ?_
                        have o48 := h.1
                        replace h := h.2
                        refine i_VI (μ' := MX10_shape) (ci := 9) (r := x2) (as := [vI ((gX G (Int.toNat (w32 (x3 + 1)))).toInt), vI ((gX G (Int.toNat (w32 (x3 + 2)))).toInt)]) (st := [vI (vX9_shape I R x1 ((gX G (Int.toNat (w32 (x3 + 1)))).toInt) ((gX G (Int.toNat (w32 (x3 + 2)))).toInt))]) rfl dL_law_466 mOKX10_shape ⟨mlL_59, imX10_shape, seX10_shape⟩ (by decide) (Nat.le_of_ble_eq_true rfl) rfl (Nat.le_of_ble_eq_true rfl) ⟨by decide, rfl⟩ o48 (CI.mono h ?_)
                        clear h
                        intro S466 I466 R466 x466_ h
                        refine e_icmp_eq (tgt := 1026) dL_law_469 (by decide) (fun c => ?_) (fun c => ?_)
                        · replace h := h.1 c
                          refine e_iinc (ls2 := [(3, vI (w32 (x3 + 6))), (0, vS), (1, vR x1), (2, vR x2)]) 3 dL_law_1026 rfl (by decide) rfl ?_
                          refine e_goto (tgt := 18) dL_law_1029 (by decide) ?_
                          exact e_sub (ls2 := [(0, vS), (1, vR x1), (2, vR x2), (3, vI (w32 (x3 + 6)))]) [1, 2, 3, 0] rfl h
                        · replace h := h.2 c
                          refine e_iconst dL_law_472 (by unfold InR; decide) ?_
                          exact e_zreturn dL_law_473 rfl (by decide) h
                      · replace h := h.2 c9
                        by_cases c10 : (iand ((gX G (Int.toNat x3)).toInt) 31) = 10
                        · replace h := h.1 c10
                          refine e_tabIn (tgt := 474) dL_law_33 10 c10 (by decide) rfl (by decide) ?_
                          refine e_aload_n 1 dL_law_474 rfl ?_
                          refine e_aload_n 0 dL_law_475 rfl ?_
                          refine e_iload_n 3 dL_law_476 rfl ?_
                          refine e_iconst dL_law_477 (by unfold InR; decide) ?_
                          refine e_iadd dL_law_478 ?_
                          have o49 := h.1
                          replace h := h.2
                          refine e_sld dL_law_479 o49 ?_
                          refine e_aload_n 0 dL_law_480 rfl ?_
                          refine e_iload_n 3 dL_law_481 rfl ?_
                          refine e_iconst dL_law_482 (by unfold InR; decide) ?_
                          refine e_iadd dL_law_483 ?_
                          have o50 := h.1
                          replace h := h.2
                          refine e_sld dL_law_484 o50 ?_
                          refine e_aload_n 0 dL_law_485 rfl ?_
                          refine e_iload_n 3 dL_law_486 rfl ?_
                          refine e_iconst dL_law_487 (by unfold InR; decide) ?_
                          refine e_iadd dL_law_488 ?_
                          have o51 := h.1
                          replace h := h.2
                          refine e_sld dL_law_489 o51 ?_
                          refine e_aload_n 0 dL_law_490 rfl ?_
                          refine e_iload_n 3 dL_law_491 rfl ?_
                          refine e_iconst dL_law_492 (by unfold InR; decide) ?_
                          refine e_iadd dL_law_493 ?_
                          have o52 := h.1
                          replace h := h.2
                          refine e_sld dL_law_494 o52 ?_
                          have o53 := h.1
                          replace h := h.2
                          refine i_VI (μ' := MX9_make) (ci := 8) (r := x1) (as := [vI ((gX G (Int.toNat (w32 (x3 + 1)))).toInt), vI ((gX G (Int.toNat (w32 (x3 + 2)))).toInt), vI ((gX G (Int.toNat (w32 (x3 + 3)))).toInt), vI ((gX G (Int.toNat (w32 (x3 + 4)))).toInt)]) (st := []) rfl dL_law_495 mOKX9_make ⟨mlL_60, imX9_make, seX9_make⟩ (by decide) (Nat.le_of_ble_eq_true rfl) rfl (Nat.le_of_ble_eq_true rfl) ⟨by decide, rfl⟩ o53 (CI.mono h ?_)
                          clear h
                          intro S495 I495 R495 x495_ h
                          refine e_aload_n 2 dL_law_498 rfl ?_
                          refine e_aload_n 0 dL_law_499 rfl ?_
                          refine e_iload_n 3 dL_law_500 rfl ?_
                          refine e_iconst dL_law_501 (by unfold InR; decide) ?_
                          refine e_iadd dL_law_502 ?_
                          refine e_sld dL_law_503 o49 ?_
                          refine e_aload_n 0 dL_law_504 rfl ?_
                          refine e_iload_n 3 dL_law_505 rfl ?_
                          refine e_iconst dL_law_506 (by unfold InR; decide) ?_
                          refine e_iadd dL_law_507 ?_
                          refine e_sld dL_law_508 o50 ?_
                          refine e_aload_n 0 dL_law_509 rfl ?_
                          refine e_iload_n 3 dL_law_510 rfl ?_
                          refine e_iconst dL_law_511 (by unfold InR; decide) ?_
                          refine e_iadd dL_law_512 ?_
                          refine e_sld dL_law_513 o51 ?_
                          refine e_aload_n 0 dL_law_514 rfl ?_
                          refine e_iload_n 3 dL_law_515 rfl ?_
                          refine e_iconst dL_law_516 (by unfold InR; decide) ?_
                          refine e_iadd dL_law_517 ?_
                          refine e_sld dL_law_518 o52 ?_
                          have o54 := h.1
                          replace h := h.2
                          refine i_VI (μ' := MX10_make) (ci := 9) (r := x2) (as := [vI ((gX G (Int.toNat (w32 (x3 + 1)))).toInt), vI ((gX G (Int.toNat (w32 (x3 + 2)))).toInt), vI ((gX G (Int.toNat (w32 (x3 + 3)))).toInt), vI ((gX G (Int.toNat (w32 (x3 + 4)))).toInt)]) (st := [vI x495_]) rfl dL_law_519 mOKX10_make ⟨mlL_64, imX10_make, seX10_make⟩ (by decide) (Nat.le_of_ble_eq_true rfl) rfl (Nat.le_of_ble_eq_true rfl) ⟨by decide, rfl⟩ o54 (CI.mono h ?_)
                          clear h
                          intro S519 I519 R519 x519_ h
                          refine e_icmp_eq (tgt := 1026) dL_law_522 (by decide) (fun c => ?_) (fun c => ?_)
                          · replace h := h.1 c
                            refine e_iinc (ls2 := [(3, vI (w32 (x3 + 6))), (0, vS), (1, vR x1), (2, vR x2)]) 3 dL_law_1026 rfl (by decide) rfl ?_
                            refine e_goto (tgt := 18) dL_law_1029 (by decide) ?_
                            exact e_sub (ls2 := [(0, vS), (1, vR x1), (2, vR x2), (3, vI (w32 (x3 + 6)))]) [1, 2, 3, 0] rfl h
                          · replace h := h.2 c
                            refine e_iconst dL_law_525 (by unfold InR; decide) ?_
                            exact e_zreturn dL_law_526 rfl (by decide) h
                        · replace h := h.2 c10
                          by_cases c11 : (iand ((gX G (Int.toNat x3)).toInt) 31) = 11
                          · replace h := h.1 c11
                            refine e_tabIn (tgt := 527) dL_law_33 11 c11 (by decide) rfl (by decide) ?_
                            refine e_aload_n 1 dL_law_527 rfl ?_
                            refine e_aload_n 0 dL_law_528 rfl ?_
                            refine e_iload_n 3 dL_law_529 rfl ?_
                            refine e_iconst dL_law_530 (by unfold InR; decide) ?_
                            refine e_iadd dL_law_531 ?_
                            have o55 := h.1
                            replace h := h.2
                            refine e_sld dL_law_532 o55 ?_
                            refine e_aload_n 0 dL_law_533 rfl ?_
                            refine e_iload_n 3 dL_law_534 rfl ?_
                            refine e_iconst dL_law_535 (by unfold InR; decide) ?_
                            refine e_iadd dL_law_536 ?_
                            have o56 := h.1
                            replace h := h.2
                            refine e_sld dL_law_537 o56 ?_
                            refine e_aload_n 0 dL_law_538 rfl ?_
                            refine e_iload_n 3 dL_law_539 rfl ?_
                            refine e_iconst dL_law_540 (by unfold InR; decide) ?_
                            refine e_iadd dL_law_541 ?_
                            have o57 := h.1
                            replace h := h.2
                            refine e_sld dL_law_542 o57 ?_
                            have o58 := h.1
                            replace h := h.2
                            refine i_VI (μ' := MX9_part) (ci := 8) (r := x1) (as := [vI ((gX G (Int.toNat (w32 (x3 + 1)))).toInt), vI ((gX G (Int.toNat (w32 (x3 + 2)))).toInt), vI ((gX G (Int.toNat (w32 (x3 + 3)))).toInt)]) (st := []) rfl dL_law_543 mOKX9_part ⟨mlL_65, imX9_part, seX9_part⟩ (by decide) (Nat.le_of_ble_eq_true rfl) rfl (Nat.le_of_ble_eq_true rfl) ⟨by decide, rfl⟩ o58 (CI.mono h ?_)
                            clear h
                            intro S543 I543 R543 x543_ h
                            refine e_aload_n 2 dL_law_546 rfl ?_
                            refine e_aload_n 0 dL_law_547 rfl ?_
                            refine e_iload_n 3 dL_law_548 rfl ?_
                            refine e_iconst dL_law_549 (by unfold InR; decide) ?_
                            refine e_iadd dL_law_550 ?_
                            refine e_sld dL_law_551 o55 ?_
                            refine e_aload_n 0 dL_law_552 rfl ?_
                            refine e_iload_n 3 dL_law_553 rfl ?_
                            refine e_iconst dL_law_554 (by unfold InR; decide) ?_
                            refine e_iadd dL_law_555 ?_
                            refine e_sld dL_law_556 o56 ?_
                            refine e_aload_n 0 dL_law_557 rfl ?_
                            refine e_iload_n 3 dL_law_558 rfl ?_
                            refine e_iconst dL_law_559 (by unfold InR; decide) ?_
                            refine e_iadd dL_law_560 ?_
                            refine e_sld dL_law_561 o57 ?_
                            have o59 := h.1
                            replace h := h.2
                            refine i_VI (μ' := MX10_part) (ci := 9) (r := x2) (as := [vI ((gX G (Int.toNat (w32 (x3 + 1)))).toInt), vI ((gX G (Int.toNat (w32 (x3 + 2)))).toInt), vI ((gX G (Int.toNat (w32 (x3 + 3)))).toInt)]) (st := [vI x543_]) rfl dL_law_562 mOKX10_part ⟨mlL_68, imX10_part, seX10_part⟩ (by decide) (Nat.le_of_ble_eq_true rfl) rfl (Nat.le_of_ble_eq_true rfl) ⟨by decide, rfl⟩ o59 (CI.mono h ?_)
                            clear h
                            intro S562 I562 R562 x562_ h
                            refine e_icmp_eq (tgt := 1026) dL_law_565 (by decide) (fun c => ?_) (fun c => ?_)
                            · replace h := h.1 c
                              refine e_iinc (ls2 := [(3, vI (w32 (x3 + 6))), (0, vS), (1, vR x1), (2, vR x2)]) 3 dL_law_1026 rfl (by decide) rfl ?_
                              refine e_goto (tgt := 18) dL_law_1029 (by decide) ?_
                              exact e_sub (ls2 := [(0, vS), (1, vR x1), (2, vR x2), (3, vI (w32 (x3 + 6)))]) [1, 2, 3, 0] rfl h
                            · replace h := h.2 c
                              refine e_iconst dL_law_568 (by unfold InR; decide) ?_
                              exact e_zreturn dL_law_569 rfl (by decide) h
                          · replace h := h.2 c11
                            by_cases c12 : (iand ((gX G (Int.toNat x3)).toInt) 31) = 12
                            · replace h := h.1 c12
                              refine e_tabIn (tgt := 570) dL_law_33 12 c12 (by decide) rfl (by decide) ?_
                              refine e_aload_n 1 dL_law_570 rfl ?_
                              refine e_aload_n 0 dL_law_571 rfl ?_
                              refine e_iload_n 3 dL_law_572 rfl ?_
                              refine e_iconst dL_law_573 (by unfold InR; decide) ?_
                              refine e_iadd dL_law_574 ?_
                              have o60 := h.1
                              replace h := h.2
                              refine e_sld dL_law_575 o60 ?_
                              refine e_aload_n 0 dL_law_576 rfl ?_
                              refine e_iload_n 3 dL_law_577 rfl ?_
                              refine e_iconst dL_law_578 (by unfold InR; decide) ?_
                              refine e_iadd dL_law_579 ?_
                              have o61 := h.1
                              replace h := h.2
                              refine e_sld dL_law_580 o61 ?_
                              have o62 := h.1
                              replace h := h.2
                              refine i_VI (μ' := MX9_weak) (ci := 8) (r := x1) (as := [vI ((gX G (Int.toNat (w32 (x3 + 1)))).toInt), vI ((gX G (Int.toNat (w32 (x3 + 2)))).toInt)]) (st := []) rfl dL_law_581 mOKX9_weak ⟨mlL_69, imX9_weak, seX9_weak⟩ (by decide) (Nat.le_of_ble_eq_true rfl) rfl (Nat.le_of_ble_eq_true rfl) ⟨by decide, rfl⟩ o62 (CI.mono h ?_)
                              clear h
                              intro S581 I581 R581 x581_ h
                              refine e_aload_n 2 dL_law_584 rfl ?_
                              refine e_aload_n 0 dL_law_585 rfl ?_
                              refine e_iload_n 3 dL_law_586 rfl ?_
                              refine e_iconst dL_law_587 (by unfold InR; decide) ?_
                              refine e_iadd dL_law_588 ?_
                              refine e_sld dL_law_589 o60 ?_
                              refine e_aload_n 0 dL_law_590 rfl ?_
                              refine e_iload_n 3 dL_law_591 rfl ?_
                              refine e_iconst dL_law_592 (by unfold InR; decide) ?_
                              refine e_iadd dL_law_593 ?_
                              refine e_sld dL_law_594 o61 ?_
                              have o63 := h.1
                              replace h := h.2
                              refine i_VI (μ' := MX10_weak) (ci := 9) (r := x2) (as := [vI ((gX G (Int.toNat (w32 (x3 + 1)))).toInt), vI ((gX G (Int.toNat (w32 (x3 + 2)))).toInt)]) (st := [vI x581_]) rfl dL_law_595 mOKX10_weak ⟨mlL_72, imX10_weak, seX10_weak⟩ (by decide) (Nat.le_of_ble_eq_true rfl) rfl (Nat.le_of_ble_eq_true rfl) ⟨by decide, rfl⟩ o63 (CI.mono h ?_)
                              clear h
                              intro S595 I595 R595 x595_ h
                              refine e_icmp_eq (tgt := 1026) dL_law_598 (by decide) (fun c => ?_) (fun c => ?_)
                              · replace h := h.1 c
                                refine e_iinc (ls2 := [(3, vI (w32 (x3 + 6))), (0, vS), (1, vR x1), (2, vR x2)]) 3 dL_law_1026 rfl (by decide) rfl ?_
                                refine e_goto (tgt := 18) dL_law_1029 (by decide) ?_
                                exact e_sub (ls2 := [(0, vS), (1, vR x1), (2, vR x2), (3, vI (w32 (x3 + 6)))]) [1, 2, 3, 0] rfl h
                              · replace h := h.2 c
                                refine e_iconst dL_law_601 (by unfold InR; decide) ?_
                                exact e_zreturn dL_law_602 rfl (by decide) h
                            · replace h := h.2 c12
                              by_cases c13 : (iand ((gX G (Int.toNat x3)).toInt) 31) = 13
                              · replace h := h.1 c13
                                refine e_tabIn (tgt := 603) dL_law_33 13 c13 (by decide) rfl (by decide) ?_
                                refine e_aload_n 1 dL_law_603 rfl ?_
                                refine e_aload_n 0 dL_law_604 rfl ?_
                                refine e_iload_n 3 dL_law_605 rfl ?_
                                refine e_iconst dL_law_606 (by unfold InR; decide) ?_
                                refine e_iadd dL_law_607 ?_
                                have o64 := h.1
                                replace h := h.2
                                refine e_sld dL_law_608 o64 ?_
                                refine e_aload_n 0 dL_law_609 rfl ?_
                                refine e_iload_n 3 dL_law_610 rfl ?_
                                refine e_iconst dL_law_611 (by unfold InR; decide) ?_
                                refine e_iadd dL_law_612 ?_
                                have o65 := h.1
                                replace h := h.2
                                refine e_sld dL_law_613 o65 ?_
                                have o66 := h.1
                                replace h := h.2
                                refine i_VI (μ' := MX9_kept) (ci := 8) (r := x1) (as := [vI ((gX G (Int.toNat (w32 (x3 + 1)))).toInt), vI ((gX G (Int.toNat (w32 (x3 + 2)))).toInt)]) (st := []) rfl dL_law_614 mOKX9_kept ⟨mlL_73, imX9_kept, seX9_kept⟩ (by decide) (Nat.le_of_ble_eq_true rfl) rfl (Nat.le_of_ble_eq_true rfl) ⟨by decide, rfl⟩ o66 (CI.mono h ?_)
                                clear h
                                intro S614 I614 R614 x614_ h
                                refine e_aload_n 2 dL_law_617 rfl ?_
                                refine e_aload_n 0 dL_law_618 rfl ?_
                                refine e_iload_n 3 dL_law_619 rfl ?_
                                refine e_iconst dL_law_620 (by unfold InR; decide) ?_
                                refine e_iadd dL_law_621 ?_
                                refine e_sld dL_law_622 o64 ?_
                                refine e_aload_n 0 dL_law_623 rfl ?_
                                refine e_iload_n 3 dL_law_624 rfl ?_
                                refine e_iconst dL_law_625 (by unfold InR; decide) ?_
                                refine e_iadd dL_law_626 ?_
                                refine e_sld dL_law_627 o65 ?_
                                have o67 := h.1
                                replace h := h.2
                                refine i_VI (μ' := MX10_kept) (ci := 9) (r := x2) (as := [vI ((gX G (Int.toNat (w32 (x3 + 1)))).toInt), vI ((gX G (Int.toNat (w32 (x3 + 2)))).toInt)]) (st := [vI x614_]) rfl dL_law_628 mOKX10_kept ⟨mlL_76, imX10_kept, seX10_kept⟩ (by decide) (Nat.le_of_ble_eq_true rfl) rfl (Nat.le_of_ble_eq_true rfl) ⟨by decide, rfl⟩ o67 (CI.mono h ?_)
                                clear h
                                intro S628 I628 R628 x628_ h
                                refine e_icmp_eq (tgt := 1026) dL_law_631 (by decide) (fun c => ?_) (fun c => ?_)
                                · replace h := h.1 c
                                  refine e_iinc (ls2 := [(3, vI (w32 (x3 + 6))), (0, vS), (1, vR x1), (2, vR x2)]) 3 dL_law_1026 rfl (by decide) rfl ?_
                                  refine e_goto (tgt := 18) dL_law_1029 (by decide) ?_
                                  exact e_sub (ls2 := [(0, vS), (1, vR x1), (2, vR x2), (3, vI (w32 (x3 + 6)))]) [1, 2, 3, 0] rfl h
                                · replace h := h.2 c
                                  refine e_iconst dL_law_634 (by unfold InR; decide) ?_
                                  exact e_zreturn dL_law_635 rfl (by decide) h
                              · replace h := h.2 c13
                                by_cases c14 : (iand ((gX G (Int.toNat x3)).toInt) 31) = 14
                                · replace h := h.1 c14
                                  refine e_tabIn (tgt := 636) dL_law_33 14 c14 (by decide) rfl (by decide) ?_
                                  refine e_aload_n 1 dL_law_636 rfl ?_
                                  refine e_aload_n 0 dL_law_637 rfl ?_
                                  refine e_iload_n 3 dL_law_638 rfl ?_
                                  refine e_iconst dL_law_639 (by unfold InR; decide) ?_
                                  refine e_iadd dL_law_640 ?_
                                  have o68 := h.1
                                  replace h := h.2
                                  refine e_sld dL_law_641 o68 ?_
                                  refine e_aload_n 0 dL_law_642 rfl ?_
                                  refine e_iload_n 3 dL_law_643 rfl ?_
                                  refine e_iconst dL_law_644 (by unfold InR; decide) ?_
                                  refine e_iadd dL_law_645 ?_
                                  have o69 := h.1
                                  replace h := h.2
                                  refine e_sld dL_law_646 o69 ?_
                                  have o70 := h.1
                                  replace h := h.2
                                  have o71 := h.1
                                  replace h := h.2
                                  refine i_VI (μ' := MX9_step) (ci := 8) (r := x1) (as := [vI ((gX G (Int.toNat (w32 (x3 + 1)))).toInt), vI ((gX G (Int.toNat (w32 (x3 + 2)))).toInt)]) (st := []) rfl dL_law_647 mOKX9_step ⟨mlL_77, imX9_step, seX9_step⟩ (by decide) (Nat.le_of_ble_eq_true rfl) rfl (Nat.le_of_ble_eq_true rfl) ⟨by decide, rfl⟩ o70 (sX9_step o71 ?_)
                                  refine e_aload_n 2 dL_law_650 rfl ?_
                                  refine e_aload_n 0 dL_law_651 rfl ?_
                                  refine e_iload_n 3 dL_law_652 rfl ?_
                                  refine e_iconst dL_law_653 (by unfold InR; decide) ?_
                                  refine e_iadd dL_law_654 ?_
                                  refine e_sld dL_law_655 o68 ?_
                                  refine e_aload_n 0 dL_law_656 rfl ?_
                                  refine e_iload_n 3 dL_law_657 rfl ?_
                                  refine e_iconst dL_law_658 (by unfold InR; decide) ?_
                                  refine e_iadd dL_law_659 ?_
                                  refine e_sld dL_law_660 o69 ?_
                                  have o72 := h.1
                                  replace h := h.2
                                  refine i_VI (μ' := MX10_step) (ci := 9) (r := x2) (as := [vI ((gX G (Int.toNat (w32 (x3 + 1)))).toInt), vI ((gX G (Int.toNat (w32 (x3 + 2)))).toInt)]) (st := [vI (vX9_step I R x1 ((gX G (Int.toNat (w32 (x3 + 1)))).toInt) ((gX G (Int.toNat (w32 (x3 + 2)))).toInt))]) rfl dL_law_661 mOKX10_step ⟨mlL_80, imX10_step, seX10_step⟩ (by decide) (Nat.le_of_ble_eq_true rfl) rfl (Nat.le_of_ble_eq_true rfl) ⟨by decide, rfl⟩ o72 (CI.mono h ?_)
                                  clear h
                                  intro S661 I661 R661 x661_ h
                                  refine e_icmp_eq (tgt := 1026) dL_law_664 (by decide) (fun c => ?_) (fun c => ?_)
                                  · replace h := h.1 c
                                    refine e_iinc (ls2 := [(3, vI (w32 (x3 + 6))), (0, vS), (1, vR x1), (2, vR x2)]) 3 dL_law_1026 rfl (by decide) rfl ?_
                                    refine e_goto (tgt := 18) dL_law_1029 (by decide) ?_
                                    exact e_sub (ls2 := [(0, vS), (1, vR x1), (2, vR x2), (3, vI (w32 (x3 + 6)))]) [1, 2, 3, 0] rfl h
                                  · replace h := h.2 c
                                    refine e_iconst dL_law_667 (by unfold InR; decide) ?_
                                    exact e_zreturn dL_law_668 rfl (by decide) h
                                · replace h := h.2 c14
                                  by_cases c15 : (iand ((gX G (Int.toNat x3)).toInt) 31) = 15
                                  · replace h := h.1 c15
                                    refine e_tabIn (tgt := 669) dL_law_33 15 c15 (by decide) rfl (by decide) ?_
                                    refine e_aload_n 1 dL_law_669 rfl ?_
                                    refine e_aload_n 0 dL_law_670 rfl ?_
                                    refine e_iload_n 3 dL_law_671 rfl ?_
                                    refine e_iconst dL_law_672 (by unfold InR; decide) ?_
                                    refine e_iadd dL_law_673 ?_
                                    have o73 := h.1
                                    replace h := h.2
                                    refine e_sld dL_law_674 o73 ?_
                                    refine e_aload_n 0 dL_law_675 rfl ?_
                                    refine e_iload_n 3 dL_law_676 rfl ?_
                                    refine e_iconst dL_law_677 (by unfold InR; decide) ?_
                                    refine e_iadd dL_law_678 ?_
                                    have o74 := h.1
                                    replace h := h.2
                                    refine e_sld dL_law_679 o74 ?_
                                    have o75 := h.1
                                    replace h := h.2
                                    refine i_VI (μ' := MX9_corners) (ci := 8) (r := x1) (as := [vI ((gX G (Int.toNat (w32 (x3 + 1)))).toInt), vI ((gX G (Int.toNat (w32 (x3 + 2)))).toInt)]) (st := []) rfl dL_law_680 mOKX9_corners ⟨mlL_81, imX9_corners, seX9_corners⟩ (by decide) (Nat.le_of_ble_eq_true rfl) rfl (Nat.le_of_ble_eq_true rfl) ⟨by decide, rfl⟩ o75 (CI.mono h ?_)
                                    clear h
                                    intro S680 I680 R680 x680_ h
                                    refine e_aload_n 2 dL_law_683 rfl ?_
                                    refine e_aload_n 0 dL_law_684 rfl ?_
                                    refine e_iload_n 3 dL_law_685 rfl ?_
                                    refine e_iconst dL_law_686 (by unfold InR; decide) ?_
                                    refine e_iadd dL_law_687 ?_
                                    refine e_sld dL_law_688 o73 ?_
                                    refine e_aload_n 0 dL_law_689 rfl ?_
                                    refine e_iload_n 3 dL_law_690 rfl ?_
                                    refine e_iconst dL_law_691 (by unfold InR; decide) ?_
                                    refine e_iadd dL_law_692 ?_
                                    refine e_sld dL_law_693 o74 ?_
                                    have o76 := h.1
                                    replace h := h.2
                                    refine i_VI (μ' := MX10_corners) (ci := 9) (r := x2) (as := [vI ((gX G (Int.toNat (w32 (x3 + 1)))).toInt), vI ((gX G (Int.toNat (w32 (x3 + 2)))).toInt)]) (st := [vI x680_]) rfl dL_law_694 mOKX10_corners ⟨mlL_84, imX10_corners, seX10_corners⟩ (by decide) (Nat.le_of_ble_eq_true rfl) rfl (Nat.le_of_ble_eq_true rfl) ⟨by decide, rfl⟩ o76 (CI.mono h ?_)
                                    clear h
                                    intro S694 I694 R694 x694_ h
                                    refine e_icmp_eq (tgt := 1026) dL_law_697 (by decide) (fun c => ?_) (fun c => ?_)
                                    · replace h := h.1 c
                                      refine e_iinc (ls2 := [(3, vI (w32 (x3 + 6))), (0, vS), (1, vR x1), (2, vR x2)]) 3 dL_law_1026 rfl (by decide) rfl ?_
                                      refine e_goto (tgt := 18) dL_law_1029 (by decide) ?_
                                      exact e_sub (ls2 := [(0, vS), (1, vR x1), (2, vR x2), (3, vI (w32 (x3 + 6)))]) [1, 2, 3, 0] rfl h
                                    · replace h := h.2 c
                                      refine e_iconst dL_law_700 (by unfold InR; decide) ?_
                                      exact e_zreturn dL_law_701 rfl (by decide) h
                                  · replace h := h.2 c15
                                    by_cases c16 : (iand ((gX G (Int.toNat x3)).toInt) 31) = 16
                                    · replace h := h.1 c16
                                      refine e_tabIn (tgt := 702) dL_law_33 16 c16 (by decide) rfl (by decide) ?_
                                      refine e_aload_n 1 dL_law_702 rfl ?_
                                      refine e_aload_n 0 dL_law_703 rfl ?_
                                      refine e_iload_n 3 dL_law_704 rfl ?_
                                      refine e_iconst dL_law_705 (by unfold InR; decide) ?_
                                      refine e_iadd dL_law_706 ?_
                                      have o77 := h.1
                                      replace h := h.2
                                      refine e_sld dL_law_707 o77 ?_
                                      refine e_aload_n 0 dL_law_708 rfl ?_
                                      refine e_iload_n 3 dL_law_709 rfl ?_
                                      refine e_iconst dL_law_710 (by unfold InR; decide) ?_
                                      refine e_iadd dL_law_711 ?_
                                      have o78 := h.1
                                      replace h := h.2
                                      refine e_sld dL_law_712 o78 ?_
                                      refine e_aload_n 0 dL_law_713 rfl ?_
                                      refine e_iload_n 3 dL_law_714 rfl ?_
                                      refine e_iconst dL_law_715 (by unfold InR; decide) ?_
                                      refine e_iadd dL_law_716 ?_
                                      have o79 := h.1
                                      replace h := h.2
                                      refine e_sld dL_law_717 o79 ?_
                                      refine e_aload_n 0 dL_law_718 rfl ?_
                                      refine e_iload_n 3 dL_law_719 rfl ?_
                                      refine e_iconst dL_law_720 (by unfold InR; decide) ?_
                                      refine e_iadd dL_law_721 ?_
                                      have o80 := h.1
                                      replace h := h.2
                                      refine e_sld dL_law_722 o80 ?_
                                      have o81 := h.1
                                      replace h := h.2
                                      refine i_VI (μ' := MX9_corner) (ci := 8) (r := x1) (as := [vI ((gX G (Int.toNat (w32 (x3 + 1)))).toInt), vI ((gX G (Int.toNat (w32 (x3 + 2)))).toInt), vI ((gX G (Int.toNat (w32 (x3 + 3)))).toInt), vI ((gX G (Int.toNat (w32 (x3 + 4)))).toInt)]) (st := []) rfl dL_law_723 mOKX9_corner ⟨mlL_85, imX9_corner, seX9_corner⟩ (by decide) (Nat.le_of_ble_eq_true rfl) rfl (Nat.le_of_ble_eq_true rfl) ⟨by decide, rfl⟩ o81 (CI.mono h ?_)
                                      clear h
                                      intro S723 I723 R723 x723_ h
                                      refine e_aload_n 2 dL_law_726 rfl ?_
                                      refine e_aload_n 0 dL_law_727 rfl ?_
                                      refine e_iload_n 3 dL_law_728 rfl ?_
                                      refine e_iconst dL_law_729 (by unfold InR; decide) ?_
                                      refine e_iadd dL_law_730 ?_
                                      refine e_sld dL_law_731 o77 ?_
                                      refine e_aload_n 0 dL_law_732 rfl ?_
                                      refine e_iload_n 3 dL_law_733 rfl ?_
                                      refine e_iconst dL_law_734 (by unfold InR; decide) ?_
                                      refine e_iadd dL_law_735 ?_
                                      refine e_sld dL_law_736 o78 ?_
                                      refine e_aload_n 0 dL_law_737 rfl ?_
                                      refine e_iload_n 3 dL_law_738 rfl ?_
                                      refine e_iconst dL_law_739 (by unfold InR; decide) ?_
                                      refine e_iadd dL_law_740 ?_
                                      refine e_sld dL_law_741 o79 ?_
                                      refine e_aload_n 0 dL_law_742 rfl ?_
                                      refine e_iload_n 3 dL_law_743 rfl ?_
                                      refine e_iconst dL_law_744 (by unfold InR; decide) ?_
                                      refine e_iadd dL_law_745 ?_
                                      refine e_sld dL_law_746 o80 ?_
                                      have o82 := h.1
                                      replace h := h.2
                                      refine i_VI (μ' := MX10_corner) (ci := 9) (r := x2) (as := [vI ((gX G (Int.toNat (w32 (x3 + 1)))).toInt), vI ((gX G (Int.toNat (w32 (x3 + 2)))).toInt), vI ((gX G (Int.toNat (w32 (x3 + 3)))).toInt), vI ((gX G (Int.toNat (w32 (x3 + 4)))).toInt)]) (st := [vI x723_]) rfl dL_law_747 mOKX10_corner ⟨mlL_88, imX10_corner, seX10_corner⟩ (by decide) (Nat.le_of_ble_eq_true rfl) rfl (Nat.le_of_ble_eq_true rfl) ⟨by decide, rfl⟩ o82 (CI.mono h ?_)
                                      clear h
                                      intro S747 I747 R747 x747_ h
                                      refine e_icmp_eq (tgt := 1026) dL_law_750 (by decide) (fun c => ?_) (fun c => ?_)
                                      · replace h := h.1 c
                                        refine e_iinc (ls2 := [(3, vI (w32 (x3 + 6))), (0, vS), (1, vR x1), (2, vR x2)]) 3 dL_law_1026 rfl (by decide) rfl ?_
                                        refine e_goto (tgt := 18) dL_law_1029 (by decide) ?_
                                        exact e_sub (ls2 := [(0, vS), (1, vR x1), (2, vR x2), (3, vI (w32 (x3 + 6)))]) [1, 2, 3, 0] rfl h
                                      · replace h := h.2 c
                                        refine e_iconst dL_law_753 (by unfold InR; decide) ?_
                                        exact e_zreturn dL_law_754 rfl (by decide) h
                                    · replace h := h.2 c16
                                      by_cases c17 : (iand ((gX G (Int.toNat x3)).toInt) 31) = 17
                                      · replace h := h.1 c17
                                        refine e_tabIn (tgt := 755) dL_law_33 17 c17 (by decide) rfl (by decide) ?_
                                        refine e_aload_n 1 dL_law_755 rfl ?_
                                        refine e_aload_n 0 dL_law_756 rfl ?_
                                        refine e_iload_n 3 dL_law_757 rfl ?_
                                        refine e_iconst dL_law_758 (by unfold InR; decide) ?_
                                        refine e_iadd dL_law_759 ?_
                                        have o83 := h.1
                                        replace h := h.2
                                        refine e_sld dL_law_760 o83 ?_
                                        refine e_aload_n 0 dL_law_761 rfl ?_
                                        refine e_iload_n 3 dL_law_762 rfl ?_
                                        refine e_iconst dL_law_763 (by unfold InR; decide) ?_
                                        refine e_iadd dL_law_764 ?_
                                        have o84 := h.1
                                        replace h := h.2
                                        refine e_sld dL_law_765 o84 ?_
                                        refine e_aload_n 0 dL_law_766 rfl ?_
                                        refine e_iload_n 3 dL_law_767 rfl ?_
                                        refine e_iconst dL_law_768 (by unfold InR; decide) ?_
                                        refine e_iadd dL_law_769 ?_
                                        have o85 := h.1
                                        replace h := h.2
                                        refine e_sld dL_law_770 o85 ?_
                                        have o86 := h.1
                                        replace h := h.2
                                        refine i_VI (μ' := MX9_stairs) (ci := 8) (r := x1) (as := [vI ((gX G (Int.toNat (w32 (x3 + 1)))).toInt), vI ((gX G (Int.toNat (w32 (x3 + 2)))).toInt), vI ((gX G (Int.toNat (w32 (x3 + 3)))).toInt)]) (st := []) rfl dL_law_771 mOKX9_stairs ⟨mlL_89, imX9_stairs, seX9_stairs⟩ (by decide) (Nat.le_of_ble_eq_true rfl) rfl (Nat.le_of_ble_eq_true rfl) ⟨by decide, rfl⟩ o86 (CI.mono h ?_)
                                        clear h
                                        intro S771 I771 R771 x771_ h
                                        refine e_aload_n 2 dL_law_774 rfl ?_
                                        refine e_aload_n 0 dL_law_775 rfl ?_
                                        refine e_iload_n 3 dL_law_776 rfl ?_
                                        refine e_iconst dL_law_777 (by unfold InR; decide) ?_
                                        refine e_iadd dL_law_778 ?_
                                        refine e_sld dL_law_779 o83 ?_
                                        refine e_aload_n 0 dL_law_780 rfl ?_
                                        refine e_iload_n 3 dL_law_781 rfl ?_
                                        refine e_iconst dL_law_782 (by unfold InR; decide) ?_
                                        refine e_iadd dL_law_783 ?_
                                        refine e_sld dL_law_784 o84 ?_
                                        refine e_aload_n 0 dL_law_785 rfl ?_
                                        refine e_iload_n 3 dL_law_786 rfl ?_
                                        refine e_iconst dL_law_787 (by unfold InR; decide) ?_
                                        refine e_iadd dL_law_788 ?_
                                        refine e_sld dL_law_789 o85 ?_
                                        have o87 := h.1
                                        replace h := h.2
                                        refine i_VI (μ' := MX10_stairs) (ci := 9) (r := x2) (as := [vI ((gX G (Int.toNat (w32 (x3 + 1)))).toInt), vI ((gX G (Int.toNat (w32 (x3 + 2)))).toInt), vI ((gX G (Int.toNat (w32 (x3 + 3)))).toInt)]) (st := [vI x771_]) rfl dL_law_790 mOKX10_stairs ⟨mlL_92, imX10_stairs, seX10_stairs⟩ (by decide) (Nat.le_of_ble_eq_true rfl) rfl (Nat.le_of_ble_eq_true rfl) ⟨by decide, rfl⟩ o87 (CI.mono h ?_)
                                        clear h
                                        intro S790 I790 R790 x790_ h
                                        refine e_icmp_eq (tgt := 1026) dL_law_793 (by decide) (fun c => ?_) (fun c => ?_)
                                        · replace h := h.1 c
                                          refine e_iinc (ls2 := [(3, vI (w32 (x3 + 6))), (0, vS), (1, vR x1), (2, vR x2)]) 3 dL_law_1026 rfl (by decide) rfl ?_
                                          refine e_goto (tgt := 18) dL_law_1029 (by decide) ?_
                                          exact e_sub (ls2 := [(0, vS), (1, vR x1), (2, vR x2), (3, vI (w32 (x3 + 6)))]) [1, 2, 3, 0] rfl h
                                        · replace h := h.2 c
                                          refine e_iconst dL_law_796 (by unfold InR; decide) ?_
                                          exact e_zreturn dL_law_797 rfl (by decide) h
                                      · replace h := h.2 c17
                                        by_cases c18 : (iand ((gX G (Int.toNat x3)).toInt) 31) = 18
                                        · replace h := h.1 c18
                                          refine e_tabIn (tgt := 798) dL_law_33 18 c18 (by decide) rfl (by decide) ?_
                                          refine e_aload_n 1 dL_law_798 rfl ?_
                                          refine e_aload_n 0 dL_law_799 rfl ?_
                                          refine e_iload_n 3 dL_law_800 rfl ?_
                                          refine e_iconst dL_law_801 (by unfold InR; decide) ?_
                                          refine e_iadd dL_law_802 ?_
                                          have o88 := h.1
                                          replace h := h.2
                                          refine e_sld dL_law_803 o88 ?_
                                          refine e_aload_n 0 dL_law_804 rfl ?_
                                          refine e_iload_n 3 dL_law_805 rfl ?_
                                          refine e_iconst dL_law_806 (by unfold InR; decide) ?_
                                          refine e_iadd dL_law_807 ?_
                                          have o89 := h.1
                                          replace h := h.2
                                          refine e_sld dL_law_808 o89 ?_
                                          refine e_aload_n 0 dL_law_809 rfl ?_
                                          refine e_iload_n 3 dL_law_810 rfl ?_
                                          refine e_iconst dL_law_811 (by unfold InR; decide) ?_
                                          refine e_iadd dL_law_812 ?_
                                          have o90 := h.1
                                          replace h := h.2
                                          refine e_sld dL_law_813 o90 ?_
                                          refine e_aload_n 0 dL_law_814 rfl ?_
                                          refine e_iload_n 3 dL_law_815 rfl ?_
                                          refine e_iconst dL_law_816 (by unfold InR; decide) ?_
                                          refine e_iadd dL_law_817 ?_
                                          have o91 := h.1
                                          replace h := h.2
                                          refine e_sld dL_law_818 o91 ?_
                                          have o92 := h.1
                                          replace h := h.2
                                          refine i_VI (μ' := MX9_stair) (ci := 8) (r := x1) (as := [vI ((gX G (Int.toNat (w32 (x3 + 1)))).toInt), vI ((gX G (Int.toNat (w32 (x3 + 2)))).toInt), vI ((gX G (Int.toNat (w32 (x3 + 3)))).toInt), vI ((gX G (Int.toNat (w32 (x3 + 4)))).toInt)]) (st := []) rfl dL_law_819 mOKX9_stair ⟨mlL_93, imX9_stair, seX9_stair⟩ (by decide) (Nat.le_of_ble_eq_true rfl) rfl (Nat.le_of_ble_eq_true rfl) ⟨by decide, rfl⟩ o92 (CI.mono h ?_)
                                          clear h
                                          intro S819 I819 R819 x819_ h
                                          refine e_aload_n 2 dL_law_822 rfl ?_
                                          refine e_aload_n 0 dL_law_823 rfl ?_
                                          refine e_iload_n 3 dL_law_824 rfl ?_
                                          refine e_iconst dL_law_825 (by unfold InR; decide) ?_
                                          refine e_iadd dL_law_826 ?_
                                          refine e_sld dL_law_827 o88 ?_
                                          refine e_aload_n 0 dL_law_828 rfl ?_
                                          refine e_iload_n 3 dL_law_829 rfl ?_
                                          refine e_iconst dL_law_830 (by unfold InR; decide) ?_
                                          refine e_iadd dL_law_831 ?_
                                          refine e_sld dL_law_832 o89 ?_
                                          refine e_aload_n 0 dL_law_833 rfl ?_
                                          refine e_iload_n 3 dL_law_834 rfl ?_
                                          refine e_iconst dL_law_835 (by unfold InR; decide) ?_
                                          refine e_iadd dL_law_836 ?_
                                          refine e_sld dL_law_837 o90 ?_
                                          refine e_aload_n 0 dL_law_838 rfl ?_
                                          refine e_iload_n 3 dL_law_839 rfl ?_
                                          refine e_iconst dL_law_840 (by unfold InR; decide) ?_
                                          refine e_iadd dL_law_841 ?_
                                          refine e_sld dL_law_842 o91 ?_
                                          have o93 := h.1
                                          replace h := h.2
                                          refine i_VI (μ' := MX10_stair) (ci := 9) (r := x2) (as := [vI ((gX G (Int.toNat (w32 (x3 + 1)))).toInt), vI ((gX G (Int.toNat (w32 (x3 + 2)))).toInt), vI ((gX G (Int.toNat (w32 (x3 + 3)))).toInt), vI ((gX G (Int.toNat (w32 (x3 + 4)))).toInt)]) (st := [vI x819_]) rfl dL_law_843 mOKX10_stair ⟨mlL_96, imX10_stair, seX10_stair⟩ (by decide) (Nat.le_of_ble_eq_true rfl) rfl (Nat.le_of_ble_eq_true rfl) ⟨by decide, rfl⟩ o93 (CI.mono h ?_)
                                          clear h
                                          intro S843 I843 R843 x843_ h
                                          refine e_icmp_eq (tgt := 1026) dL_law_846 (by decide) (fun c => ?_) (fun c => ?_)
                                          · replace h := h.1 c
                                            refine e_iinc (ls2 := [(3, vI (w32 (x3 + 6))), (0, vS), (1, vR x1), (2, vR x2)]) 3 dL_law_1026 rfl (by decide) rfl ?_
                                            refine e_goto (tgt := 18) dL_law_1029 (by decide) ?_
                                            exact e_sub (ls2 := [(0, vS), (1, vR x1), (2, vR x2), (3, vI (w32 (x3 + 6)))]) [1, 2, 3, 0] rfl h
                                          · replace h := h.2 c
                                            refine e_iconst dL_law_849 (by unfold InR; decide) ?_
                                            exact e_zreturn dL_law_850 rfl (by decide) h
                                        · replace h := h.2 c18
                                          by_cases c19 : (iand ((gX G (Int.toNat x3)).toInt) 31) = 19
                                          · replace h := h.1 c19
                                            refine e_tabIn (tgt := 851) dL_law_33 19 c19 (by decide) rfl (by decide) ?_
                                            refine e_aload_n 1 dL_law_851 rfl ?_
                                            refine e_aload_n 0 dL_law_852 rfl ?_
                                            refine e_iload_n 3 dL_law_853 rfl ?_
                                            refine e_iconst dL_law_854 (by unfold InR; decide) ?_
                                            refine e_iadd dL_law_855 ?_
                                            have o94 := h.1
                                            replace h := h.2
                                            refine e_sld dL_law_856 o94 ?_
                                            refine e_aload_n 0 dL_law_857 rfl ?_
                                            refine e_iload_n 3 dL_law_858 rfl ?_
                                            refine e_iconst dL_law_859 (by unfold InR; decide) ?_
                                            refine e_iadd dL_law_860 ?_
                                            have o95 := h.1
                                            replace h := h.2
                                            refine e_sld dL_law_861 o95 ?_
                                            refine e_aload_n 0 dL_law_862 rfl ?_
                                            refine e_iload_n 3 dL_law_863 rfl ?_
                                            refine e_iconst dL_law_864 (by unfold InR; decide) ?_
                                            refine e_iadd dL_law_865 ?_
                                            have o96 := h.1
                                            replace h := h.2
                                            refine e_sld dL_law_866 o96 ?_
                                            refine e_aload_n 0 dL_law_867 rfl ?_
                                            refine e_iload_n 3 dL_law_868 rfl ?_
                                            refine e_iconst dL_law_869 (by unfold InR; decide) ?_
                                            refine e_iadd dL_law_870 ?_
                                            have o97 := h.1
                                            replace h := h.2
                                            refine e_sld dL_law_871 o97 ?_
                                            have o98 := h.1
                                            replace h := h.2
                                            refine i_VI (μ' := MX9_rest) (ci := 8) (r := x1) (as := [vI ((gX G (Int.toNat (w32 (x3 + 1)))).toInt), vI ((gX G (Int.toNat (w32 (x3 + 2)))).toInt), vI ((gX G (Int.toNat (w32 (x3 + 3)))).toInt), vI ((gX G (Int.toNat (w32 (x3 + 4)))).toInt)]) (st := []) rfl dL_law_872 mOKX9_rest ⟨mlL_97, imX9_rest, seX9_rest⟩ (by decide) (Nat.le_of_ble_eq_true rfl) rfl (Nat.le_of_ble_eq_true rfl) ⟨by decide, rfl⟩ o98 (CI.mono h ?_)
                                            clear h
                                            intro S872 I872 R872 x872_ h
                                            refine e_aload_n 2 dL_law_875 rfl ?_
                                            refine e_aload_n 0 dL_law_876 rfl ?_
                                            refine e_iload_n 3 dL_law_877 rfl ?_
                                            refine e_iconst dL_law_878 (by unfold InR; decide) ?_
                                            refine e_iadd dL_law_879 ?_
                                            refine e_sld dL_law_880 o94 ?_
                                            refine e_aload_n 0 dL_law_881 rfl ?_
                                            refine e_iload_n 3 dL_law_882 rfl ?_
                                            refine e_iconst dL_law_883 (by unfold InR; decide) ?_
                                            refine e_iadd dL_law_884 ?_
                                            refine e_sld dL_law_885 o95 ?_
                                            refine e_aload_n 0 dL_law_886 rfl ?_
                                            refine e_iload_n 3 dL_law_887 rfl ?_
                                            refine e_iconst dL_law_888 (by unfold InR; decide) ?_
                                            refine e_iadd dL_law_889 ?_
                                            refine e_sld dL_law_890 o96 ?_
                                            refine e_aload_n 0 dL_law_891 rfl ?_
                                            refine e_iload_n 3 dL_law_892 rfl ?_
                                            refine e_iconst dL_law_893 (by unfold InR; decide) ?_
                                            refine e_iadd dL_law_894 ?_
                                            refine e_sld dL_law_895 o97 ?_
                                            have o99 := h.1
                                            replace h := h.2
                                            refine i_VI (μ' := MX10_rest) (ci := 9) (r := x2) (as := [vI ((gX G (Int.toNat (w32 (x3 + 1)))).toInt), vI ((gX G (Int.toNat (w32 (x3 + 2)))).toInt), vI ((gX G (Int.toNat (w32 (x3 + 3)))).toInt), vI ((gX G (Int.toNat (w32 (x3 + 4)))).toInt)]) (st := [vI x872_]) rfl dL_law_896 mOKX10_rest ⟨mlL_100, imX10_rest, seX10_rest⟩ (by decide) (Nat.le_of_ble_eq_true rfl) rfl (Nat.le_of_ble_eq_true rfl) ⟨by decide, rfl⟩ o99 (CI.mono h ?_)
                                            clear h
                                            intro S896 I896 R896 x896_ h
                                            refine e_icmp_eq (tgt := 1026) dL_law_899 (by decide) (fun c => ?_) (fun c => ?_)
                                            · replace h := h.1 c
                                              refine e_iinc (ls2 := [(3, vI (w32 (x3 + 6))), (0, vS), (1, vR x1), (2, vR x2)]) 3 dL_law_1026 rfl (by decide) rfl ?_
                                              refine e_goto (tgt := 18) dL_law_1029 (by decide) ?_
                                              exact e_sub (ls2 := [(0, vS), (1, vR x1), (2, vR x2), (3, vI (w32 (x3 + 6)))]) [1, 2, 3, 0] rfl h
                                            · replace h := h.2 c
                                              refine e_iconst dL_law_902 (by unfold InR; decide) ?_
                                              exact e_zreturn dL_law_903 rfl (by decide) h
                                          · replace h := h.2 c19
                                            by_cases c20 : (iand ((gX G (Int.toNat x3)).toInt) 31) = 20
                                            · replace h := h.1 c20
                                              refine e_tabIn (tgt := 904) dL_law_33 20 c20 (by decide) rfl (by decide) ?_
                                              refine e_aload_n 1 dL_law_904 rfl ?_
                                              refine e_aload_n 0 dL_law_905 rfl ?_
                                              refine e_iload_n 3 dL_law_906 rfl ?_
                                              refine e_iconst dL_law_907 (by unfold InR; decide) ?_
                                              refine e_iadd dL_law_908 ?_
                                              have o100 := h.1
                                              replace h := h.2
                                              refine e_sld dL_law_909 o100 ?_
                                              refine e_aload_n 0 dL_law_910 rfl ?_
                                              refine e_iload_n 3 dL_law_911 rfl ?_
                                              refine e_iconst dL_law_912 (by unfold InR; decide) ?_
                                              refine e_iadd dL_law_913 ?_
                                              have o101 := h.1
                                              replace h := h.2
                                              refine e_sld dL_law_914 o101 ?_
                                              have o102 := h.1
                                              replace h := h.2
                                              refine i_VI (μ' := MX9_length) (ci := 8) (r := x1) (as := [vI ((gX G (Int.toNat (w32 (x3 + 1)))).toInt), vI ((gX G (Int.toNat (w32 (x3 + 2)))).toInt)]) (st := []) rfl dL_law_915 mOKX9_length ⟨mlL_101, imX9_length, seX9_length⟩ (by decide) (Nat.le_of_ble_eq_true rfl) rfl (Nat.le_of_ble_eq_true rfl) ⟨by decide, rfl⟩ o102 (CI.mono h ?_)
                                              clear h
                                              intro S915 I915 R915 x915_ h
                                              refine e_aload_n 2 dL_law_918 rfl ?_
                                              refine e_aload_n 0 dL_law_919 rfl ?_
                                              refine e_iload_n 3 dL_law_920 rfl ?_
                                              refine e_iconst dL_law_921 (by unfold InR; decide) ?_
                                              refine e_iadd dL_law_922 ?_
                                              refine e_sld dL_law_923 o100 ?_
                                              refine e_aload_n 0 dL_law_924 rfl ?_
                                              refine e_iload_n 3 dL_law_925 rfl ?_
                                              refine e_iconst dL_law_926 (by unfold InR; decide) ?_
                                              refine e_iadd dL_law_927 ?_
                                              refine e_sld dL_law_928 o101 ?_
                                              have o103 := h.1
                                              replace h := h.2
                                              refine i_VI (μ' := MX10_length) (ci := 9) (r := x2) (as := [vI ((gX G (Int.toNat (w32 (x3 + 1)))).toInt), vI ((gX G (Int.toNat (w32 (x3 + 2)))).toInt)]) (st := [vI x915_]) rfl dL_law_929 mOKX10_length ⟨mlL_104, imX10_length, seX10_length⟩ (by decide) (Nat.le_of_ble_eq_true rfl) rfl (Nat.le_of_ble_eq_true rfl) ⟨by decide, rfl⟩ o103 (CI.mono h ?_)
                                              clear h
                                              intro S929 I929 R929 x929_ h
                                              refine e_icmp_eq (tgt := 1026) dL_law_932 (by decide) (fun c => ?_) (fun c => ?_)
                                              · replace h := h.1 c
                                                refine e_iinc (ls2 := [(3, vI (w32 (x3 + 6))), (0, vS), (1, vR x1), (2, vR x2)]) 3 dL_law_1026 rfl (by decide) rfl ?_
                                                refine e_goto (tgt := 18) dL_law_1029 (by decide) ?_
                                                exact e_sub (ls2 := [(0, vS), (1, vR x1), (2, vR x2), (3, vI (w32 (x3 + 6)))]) [1, 2, 3, 0] rfl h
                                              · replace h := h.2 c
                                                refine e_iconst dL_law_935 (by unfold InR; decide) ?_
                                                exact e_zreturn dL_law_936 rfl (by decide) h
                                            · replace h := h.2 c20
                                              by_cases c21 : (iand ((gX G (Int.toNat x3)).toInt) 31) = 21
                                              · replace h := h.1 c21
                                                refine e_tabIn (tgt := 937) dL_law_33 21 c21 (by decide) rfl (by decide) ?_
                                                refine e_aload_n 1 dL_law_937 rfl ?_
                                                refine e_aload_n 0 dL_law_938 rfl ?_
                                                refine e_iload_n 3 dL_law_939 rfl ?_
                                                refine e_iconst dL_law_940 (by unfold InR; decide) ?_
                                                refine e_iadd dL_law_941 ?_
                                                have o104 := h.1
                                                replace h := h.2
                                                refine e_sld dL_law_942 o104 ?_
                                                refine e_aload_n 0 dL_law_943 rfl ?_
                                                refine e_iload_n 3 dL_law_944 rfl ?_
                                                refine e_iconst dL_law_945 (by unfold InR; decide) ?_
                                                refine e_iadd dL_law_946 ?_
                                                have o105 := h.1
                                                replace h := h.2
                                                refine e_sld dL_law_947 o105 ?_
                                                have o106 := h.1
                                                replace h := h.2
                                                refine i_VI (μ' := MX9_number) (ci := 8) (r := x1) (as := [vI ((gX G (Int.toNat (w32 (x3 + 1)))).toInt), vI ((gX G (Int.toNat (w32 (x3 + 2)))).toInt)]) (st := []) rfl dL_law_948 mOKX9_number ⟨mlL_105, imX9_number, seX9_number⟩ (by decide) (Nat.le_of_ble_eq_true rfl) rfl (Nat.le_of_ble_eq_true rfl) ⟨by decide, rfl⟩ o106 (CI.mono h ?_)
                                                clear h
                                                intro S948 I948 R948 x948_ h
                                                refine e_aload_n 2 dL_law_951 rfl ?_
                                                refine e_aload_n 0 dL_law_952 rfl ?_
                                                refine e_iload_n 3 dL_law_953 rfl ?_
                                                refine e_iconst dL_law_954 (by unfold InR; decide) ?_
                                                refine e_iadd dL_law_955 ?_
                                                refine e_sld dL_law_956 o104 ?_
                                                refine e_aload_n 0 dL_law_957 rfl ?_
                                                refine e_iload_n 3 dL_law_958 rfl ?_
                                                refine e_iconst dL_law_959 (by unfold InR; decide) ?_
                                                refine e_iadd dL_law_960 ?_
                                                refine e_sld dL_law_961 o105 ?_
                                                have o107 := h.1
                                                replace h := h.2
                                                refine i_VI (μ' := MX10_number) (ci := 9) (r := x2) (as := [vI ((gX G (Int.toNat (w32 (x3 + 1)))).toInt), vI ((gX G (Int.toNat (w32 (x3 + 2)))).toInt)]) (st := [vI x948_]) rfl dL_law_962 mOKX10_number ⟨mlL_108, imX10_number, seX10_number⟩ (by decide) (Nat.le_of_ble_eq_true rfl) rfl (Nat.le_of_ble_eq_true rfl) ⟨by decide, rfl⟩ o107 (CI.mono h ?_)
                                                clear h
                                                intro S962 I962 R962 x962_ h
                                                refine e_icmp_eq (tgt := 1026) dL_law_965 (by decide) (fun c => ?_) (fun c => ?_)
                                                · replace h := h.1 c
                                                  refine e_iinc (ls2 := [(3, vI (w32 (x3 + 6))), (0, vS), (1, vR x1), (2, vR x2)]) 3 dL_law_1026 rfl (by decide) rfl ?_
                                                  refine e_goto (tgt := 18) dL_law_1029 (by decide) ?_
                                                  exact e_sub (ls2 := [(0, vS), (1, vR x1), (2, vR x2), (3, vI (w32 (x3 + 6)))]) [1, 2, 3, 0] rfl h
                                                · replace h := h.2 c
                                                  refine e_iconst dL_law_968 (by unfold InR; decide) ?_
                                                  exact e_zreturn dL_law_969 rfl (by decide) h
                                              · replace h := h.2 c21
                                                by_cases c22 : (iand ((gX G (Int.toNat x3)).toInt) 31) = 22
                                                · replace h := h.1 c22
                                                  refine e_tabIn (tgt := 970) dL_law_33 22 c22 (by decide) rfl (by decide) ?_
                                                  refine e_aload_n 1 dL_law_970 rfl ?_
                                                  refine e_aload_n 0 dL_law_971 rfl ?_
                                                  refine e_iload_n 3 dL_law_972 rfl ?_
                                                  refine e_iconst dL_law_973 (by unfold InR; decide) ?_
                                                  refine e_iadd dL_law_974 ?_
                                                  have o108 := h.1
                                                  replace h := h.2
                                                  refine e_sld dL_law_975 o108 ?_
                                                  refine e_aload_n 0 dL_law_976 rfl ?_
                                                  refine e_iload_n 3 dL_law_977 rfl ?_
                                                  refine e_iconst dL_law_978 (by unfold InR; decide) ?_
                                                  refine e_iadd dL_law_979 ?_
                                                  have o109 := h.1
                                                  replace h := h.2
                                                  refine e_sld dL_law_980 o109 ?_
                                                  have o110 := h.1
                                                  replace h := h.2
                                                  have o111 := h.1
                                                  replace h := h.2
                                                  refine i_VI (μ' := MX9_all) (ci := 8) (r := x1) (as := [vI ((gX G (Int.toNat (w32 (x3 + 1)))).toInt), vI ((gX G (Int.toNat (w32 (x3 + 2)))).toInt)]) (st := []) rfl dL_law_981 mOKX9_all ⟨mlL_109, imX9_all, seX9_all⟩ (by decide) (Nat.le_of_ble_eq_true rfl) rfl (Nat.le_of_ble_eq_true rfl) ⟨by decide, rfl⟩ o110 (sX9_all o111 ?_)
                                                  refine e_aload_n 2 dL_law_984 rfl ?_
                                                  refine e_aload_n 0 dL_law_985 rfl ?_
                                                  refine e_iload_n 3 dL_law_986 rfl ?_
                                                  refine e_iconst dL_law_987 (by unfold InR; decide) ?_
                                                  refine e_iadd dL_law_988 ?_
                                                  refine e_sld dL_law_989 o108 ?_
                                                  refine e_aload_n 0 dL_law_990 rfl ?_
                                                  refine e_iload_n 3 dL_law_991 rfl ?_
                                                  refine e_iconst dL_law_992 (by unfold InR; decide) ?_
                                                  refine e_iadd dL_law_993 ?_
                                                  refine e_sld dL_law_994 o109 ?_
                                                  have o112 := h.1
                                                  replace h := h.2
                                                  refine i_VI (μ' := MX10_all) (ci := 9) (r := x2) (as := [vI ((gX G (Int.toNat (w32 (x3 + 1)))).toInt), vI ((gX G (Int.toNat (w32 (x3 + 2)))).toInt)]) (st := [vI (vX9_all I R x1 ((gX G (Int.toNat (w32 (x3 + 1)))).toInt) ((gX G (Int.toNat (w32 (x3 + 2)))).toInt))]) rfl dL_law_995 mOKX10_all ⟨mlL_112, imX10_all, seX10_all⟩ (by decide) (Nat.le_of_ble_eq_true rfl) rfl (Nat.le_of_ble_eq_true rfl) ⟨by decide, rfl⟩ o112 (CI.mono h ?_)
                                                  clear h
                                                  intro S995 I995 R995 x995_ h
                                                  refine e_icmp_eq (tgt := 1026) dL_law_998 (by decide) (fun c => ?_) (fun c => ?_)
                                                  · replace h := h.1 c
                                                    refine e_iinc (ls2 := [(3, vI (w32 (x3 + 6))), (0, vS), (1, vR x1), (2, vR x2)]) 3 dL_law_1026 rfl (by decide) rfl ?_
                                                    refine e_goto (tgt := 18) dL_law_1029 (by decide) ?_
                                                    exact e_sub (ls2 := [(0, vS), (1, vR x1), (2, vR x2), (3, vI (w32 (x3 + 6)))]) [1, 2, 3, 0] rfl h
                                                  · replace h := h.2 c
                                                    refine e_iconst dL_law_1001 (by unfold InR; decide) ?_
                                                    exact e_zreturn dL_law_1002 rfl (by decide) h
                                                · replace h := h.2 c22
                                                  by_cases c23 : (iand ((gX G (Int.toNat x3)).toInt) 31) = 23
                                                  · replace h := h.1 c23
                                                    refine e_tabIn (tgt := 1003) dL_law_33 23 c23 (by decide) rfl (by decide) ?_
                                                    refine e_aload_n 1 dL_law_1003 rfl ?_
                                                    refine e_aload_n 0 dL_law_1004 rfl ?_
                                                    refine e_iload_n 3 dL_law_1005 rfl ?_
                                                    refine e_iconst dL_law_1006 (by unfold InR; decide) ?_
                                                    refine e_iadd dL_law_1007 ?_
                                                    have o113 := h.1
                                                    replace h := h.2
                                                    refine e_sld dL_law_1008 o113 ?_
                                                    have o114 := h.1
                                                    replace h := h.2
                                                    refine i_VI (μ' := MX9_look) (ci := 8) (r := x1) (as := [vI ((gX G (Int.toNat (w32 (x3 + 1)))).toInt)]) (st := []) rfl dL_law_1009 mOKX9_look ⟨mlL_113, imX9_look, seX9_look⟩ (by decide) (Nat.le_of_ble_eq_true rfl) rfl (Nat.le_of_ble_eq_true rfl) ⟨by decide, rfl⟩ o114 (CI.mono h ?_)
                                                    clear h
                                                    intro S1009 I1009 R1009 x1009_ h
                                                    refine e_aload_n 2 dL_law_1012 rfl ?_
                                                    refine e_aload_n 0 dL_law_1013 rfl ?_
                                                    refine e_iload_n 3 dL_law_1014 rfl ?_
                                                    refine e_iconst dL_law_1015 (by unfold InR; decide) ?_
                                                    refine e_iadd dL_law_1016 ?_
                                                    refine e_sld dL_law_1017 o113 ?_
                                                    have o115 := h.1
                                                    replace h := h.2
                                                    refine i_VI (μ' := MX10_look) (ci := 9) (r := x2) (as := [vI ((gX G (Int.toNat (w32 (x3 + 1)))).toInt)]) (st := [vI x1009_]) rfl dL_law_1018 mOKX10_look ⟨mlL_116, imX10_look, seX10_look⟩ (by decide) (Nat.le_of_ble_eq_true rfl) rfl (Nat.le_of_ble_eq_true rfl) ⟨by decide, rfl⟩ o115 (CI.mono h ?_)
                                                    clear h
                                                    intro S1018 I1018 R1018 x1018_ h
                                                    refine e_icmp_eq (tgt := 1026) dL_law_1021 (by decide) (fun c => ?_) (fun c => ?_)
                                                    · replace h := h.1 c
                                                      refine e_iinc (ls2 := [(3, vI (w32 (x3 + 6))), (0, vS), (1, vR x1), (2, vR x2)]) 3 dL_law_1026 rfl (by decide) rfl ?_
                                                      refine e_goto (tgt := 18) dL_law_1029 (by decide) ?_
                                                      exact e_sub (ls2 := [(0, vS), (1, vR x1), (2, vR x2), (3, vI (w32 (x3 + 6)))]) [1, 2, 3, 0] rfl h
                                                    · replace h := h.2 c
                                                      refine e_iconst dL_law_1024 (by unfold InR; decide) ?_
                                                      exact e_zreturn dL_law_1025 rfl (by decide) h
                                                  · replace h := h.2 c23
                                                    refine e_tabOut (tgt := 1026) dL_law_33 (by omega) (by decide) ?_
                                                    refine e_iinc (ls2 := [(3, vI (w32 (x3 + 6))), (0, vS), (1, vR x1), (2, vR x2)]) 3 dL_law_1026 rfl (by decide) rfl ?_
                                                    refine e_goto (tgt := 18) dL_law_1029 (by decide) ?_
                                                    exact e_sub (ls2 := [(0, vS), (1, vR x1), (2, vR x2), (3, vI (w32 (x3 + 6)))]) [1, 2, 3, 0] rfl h
