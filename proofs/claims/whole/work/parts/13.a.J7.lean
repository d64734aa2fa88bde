def LJ7_fill_53178_5 (G : Gl) (x0 : Nat) (x1 : Int) (x2 : Int) (x3 : Int) (S : Sh) (I : MI) (R : MR) (Q : Sh → MI → MR → Prop) : Prop := E G MJ7_fill_53178 5 [(0, vR x0), (1, vI x1), (2, vI x2), (3, vI x3)] [] S I R (qV Q)
set_option maxRecDepth 100000 in
set_option maxHeartbeats 4000000 in
theorem bJ7_fill_53178 {G : Gl} {S : Sh} {I : MI} {R : MR} {Q : Sh → MI → MR → Prop} {x0 : Nat} {x1 : Int} (h : (21 ≤ sT S x0 ∧ LJ7_fill_53178_5 G x0 x1 0 (sL S x0 : Int) S I R Q)) : CV G MJ7_fill_53178 [vR x0, vI x1] S I R Q := by
  show E G MJ7_fill_53178 0 [(0, vR x0), (1, vI x1)] [] S I R (qV Q)
  refine e_iconst dJ7_fill_53178_0 (by unfold InR; decide) ?_
  refine e_istore_n (ls2 := [(2, vI 0), (0, vR x0), (1, vI x1)]) dJ7_fill_53178_1 (by decide) rfl ?_
  refine e_aload_n 1 dJ7_fill_53178_2 rfl ?_
  have o1 := h.1
  replace h := h.2
  refine e_alen dJ7_fill_53178_3 o1 ?_
  refine e_istore_n (ls2 := [(3, vI (sL S x0 : Int)), (2, vI 0), (0, vR x0), (1, vI x1)]) dJ7_fill_53178_4 (by decide) rfl ?_
  exact e_sub (ls2 := [(0, vR x0), (1, vI x1), (2, vI 0), (3, vI (sL S x0 : Int))]) [2, 3, 1, 0] rfl h
set_option maxRecDepth 100000 in
set_option maxHeartbeats 4000000 in
theorem bJ7_fill_53178_5 {G : Gl} {S : Sh} {I : MI} {R : MR} {Q : Sh → MI → MR → Prop} {x0 : Nat} {x1 : Int} {x2 : Int} {x3 : Int} (h : ((x3 ≤ x2 → Q S I R) ∧ (¬ (x3 ≤ x2) → (sT S x0 = 21 ∧ (((0 : Int) ≤ x2 ∧ x2 < (sL S x0 : Int)) ∧ (∀ I13, I13 = up2 I x0 (Int.toNat x2) x1 → LJ7_fill_53178_5 G x0 x1 (w32 (x2 + 1)) x3 S I13 R Q)))))) : LJ7_fill_53178_5 G x0 x1 x2 x3 S I R Q := by
  show E G MJ7_fill_53178 5 [(0, vR x0), (1, vI x1), (2, vI x2), (3, vI x3)] [] S I R (qV Q)
  refine e_iload_n 2 dJ7_fill_53178_5 rfl ?_
  refine e_iload_n 3 dJ7_fill_53178_6 rfl ?_
  refine e_icmp_ge (tgt := 20) dJ7_fill_53178_7 (by decide) (fun c => ?_) (fun c => ?_)
  · replace h := h.1 c
    exact e_return dJ7_fill_53178_20 rfl ⟨rfl, h⟩
  · replace h := h.2 c
    refine e_aload_n 0 dJ7_fill_53178_10 rfl ?_
    refine e_iload_n 2 dJ7_fill_53178_11 rfl ?_
    refine e_iload_n 1 dJ7_fill_53178_12 rfl ?_
    have o2 := h.1
    replace h := h.2
    have o3 := h.1
    replace h := h.2
    obtain ⟨I13, eI13⟩ : ∃ z : MI, z = up2 I x0 (Int.toNat x2) x1 := ⟨_, rfl⟩
    replace h := h I13 eI13
    refine e_iast dJ7_fill_53178_13 o2 o3 (eqI eI13 ?_)
    refine e_iinc (ls2 := [(2, vI (w32 (x2 + 1))), (0, vR x0), (1, vI x1), (3, vI x3)]) 2 dJ7_fill_53178_14 rfl (by decide) rfl ?_
    refine e_goto (tgt := 5) dJ7_fill_53178_17 (by decide) ?_
    exact e_sub (ls2 := [(0, vR x0), (1, vI x1), (2, vI (w32 (x2 + 1))), (3, vI x3)]) [1, 2, 0, 3] rfl h
