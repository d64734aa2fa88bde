/-! ===== the law ===== -/
set_option maxRecDepth 100000 in
set_option maxHeartbeats 4000000 in
theorem law_step {G : Gl} {S : Sh} {I : MI} {R : MR} {s : Ms} {i : Nat} (hG : gL G ≤ 3072) (hi : LawI i S I R s) (h5 : i ≤ 512) (hk : ∀ S' I' R' s', ((i : Int) ≤ 511) → LawI (i + 1) S' I' R' s' → LL_law_18 G 1 1310 (((6 * (i + 1) : Nat) : Int)) S' I' R' QL) : LL_law_18 G 1 1310 (((6 * i : Nat) : Int)) S I R QL := by
  have e0 : w32 ((gL G : Int) - 6) = (gL G : Int) - 6 := w32_id (by omega)
  have w1 : w32 (((6 * i : Nat) : Int) + 1) = ((6 * i : Nat) : Int) + 1 := w32_id (by omega)
  have w2 : w32 (((6 * i : Nat) : Int) + 2) = ((6 * i : Nat) : Int) + 2 := w32_id (by omega)
  have w3 : w32 (((6 * i : Nat) : Int) + 3) = ((6 * i : Nat) : Int) + 3 := w32_id (by omega)
  have w4 : w32 (((6 * i : Nat) : Int) + 4) = ((6 * i : Nat) : Int) + 4 := w32_id (by omega)
  have w5 : w32 (((6 * i : Nat) : Int) + 5) = ((6 * i : Nat) : Int) + 5 := w32_id (by omega)
  have w6 : w32 (((6 * i : Nat) : Int) + 6) = ((6 * (i + 1) : Nat) : Int) := by rw [w32_id (by omega)]; omega
  have hn := hi.2.2.2.2.1
  have hu := hi.2.2.2.2.2
  refine bL_law_18 ⟨hG, fun _ => ⟨rfl, by omega, by omega⟩, fun z => ⟨⟨by omega, by omega⟩, ?_⟩⟩
  rw [e0] at z
  have hK : ∀ S' I' R' s', LawI (i + 1) S' I' R' s' → LL_law_18 G 1 1310 (w32 (((6 * i : Nat) : Int) + 6)) S' I' R' QL := fun S' I' R' s' h => by rw [w6]; exact hk S' I' R' s' (by omega) h
  exact ⟨fun _ => ⟨⟨by omega, by omega⟩, ⟨by omega, by omega⟩, st_ring hi (InR_toInt _) (InR_toInt _) hK⟩, fun _ => ⟨fun _ => ⟨⟨by omega, by omega⟩, ⟨by omega, by omega⟩, ⟨by omega, by omega⟩, st_weights hi (InR_toInt _) (InR_toInt _) (InR_toInt _) hK⟩, fun _ => ⟨fun _ => ⟨⟨by omega, by omega⟩, ⟨by omega, by omega⟩, ⟨by omega, by omega⟩, ⟨by omega, by omega⟩, ⟨by omega, by omega⟩, st_feed hi (InR_toInt _) (InR_toInt _) (InR_toInt _) (InR_toInt _) (InR_toInt _) hK⟩, fun _ => ⟨fun _ => ⟨⟨by omega, by omega⟩, st_end hi (InR_toInt _) hK⟩, fun _ => ⟨fun _ => ⟨⟨by omega, by omega⟩, st_poly hi (InR_toInt _) hK⟩, fun _ => ⟨fun _ => ⟨⟨by omega, by omega⟩, st_fault hi (InR_toInt _) hK⟩, fun _ => ⟨fun _ => ⟨⟨by omega, by omega⟩, st_show hi (InR_toInt _) hK⟩, fun _ => ⟨fun _ => ⟨⟨by omega, by omega⟩, st_out hi (InR_toInt _) hK⟩, fun _ => ⟨fun _ => ⟨⟨by omega, by omega⟩, ⟨by omega, by omega⟩, ⟨by omega, by omega⟩, st_term hi (InR_toInt _) (InR_toInt _) (InR_toInt _) hK⟩, fun _ => ⟨fun _ => ⟨⟨by omega, by omega⟩, ⟨by omega, by omega⟩, st_shape hi (InR_toInt _) (InR_toInt _) hK⟩, fun _ => ⟨fun _ => ⟨⟨by omega, by omega⟩, ⟨by omega, by omega⟩, ⟨by omega, by omega⟩, ⟨by omega, by omega⟩, st_make hi (InR_toInt _) (InR_toInt _) (InR_toInt _) (InR_toInt _) hK⟩, fun _ => ⟨fun _ => ⟨⟨by omega, by omega⟩, ⟨by omega, by omega⟩, ⟨by omega, by omega⟩, st_part hi (InR_toInt _) (InR_toInt _) (InR_toInt _) hK⟩, fun _ => ⟨fun _ => ⟨⟨by omega, by omega⟩, ⟨by omega, by omega⟩, st_weak hi (InR_toInt _) (InR_toInt _) hK⟩, fun _ => ⟨fun _ => ⟨⟨by omega, by omega⟩, ⟨by omega, by omega⟩, st_kept hi (InR_toInt _) (InR_toInt _) hK⟩, fun _ => ⟨fun _ => ⟨⟨by omega, by omega⟩, ⟨by omega, by omega⟩, st_step hi (InR_toInt _) (InR_toInt _) hK⟩, fun _ => ⟨fun _ => ⟨⟨by omega, by omega⟩, ⟨by omega, by omega⟩, st_corners hi (InR_toInt _) (InR_toInt _) hK⟩, fun _ => ⟨fun _ => ⟨⟨by omega, by omega⟩, ⟨by omega, by omega⟩, ⟨by omega, by omega⟩, ⟨by omega, by omega⟩, st_corner hi (InR_toInt _) (InR_toInt _) (InR_toInt _) (InR_toInt _) hK⟩, fun _ => ⟨fun _ => ⟨⟨by omega, by omega⟩, ⟨by omega, by omega⟩, ⟨by omega, by omega⟩, st_stairs hi (InR_toInt _) (InR_toInt _) (InR_toInt _) hK⟩, fun _ => ⟨fun _ => ⟨⟨by omega, by omega⟩, ⟨by omega, by omega⟩, ⟨by omega, by omega⟩, ⟨by omega, by omega⟩, st_stair hi (InR_toInt _) (InR_toInt _) (InR_toInt _) (InR_toInt _) hK⟩, fun _ => ⟨fun _ => ⟨⟨by omega, by omega⟩, ⟨by omega, by omega⟩, ⟨by omega, by omega⟩, ⟨by omega, by omega⟩, st_rest hi (InR_toInt _) (InR_toInt _) (InR_toInt _) (InR_toInt _) hK⟩, fun _ => ⟨fun _ => ⟨⟨by omega, by omega⟩, ⟨by omega, by omega⟩, st_length hi (InR_toInt _) (InR_toInt _) hK⟩, fun _ => ⟨fun _ => ⟨⟨by omega, by omega⟩, ⟨by omega, by omega⟩, st_number hi (InR_toInt _) (InR_toInt _) hK⟩, fun _ => ⟨fun _ => ⟨⟨by omega, by omega⟩, ⟨by omega, by omega⟩, st_all hi (InR_toInt _) (InR_toInt _) hK⟩, fun _ => ⟨fun _ => ⟨⟨by omega, by omega⟩, st_look hi (InR_toInt _) hK⟩, fun _ => hK S I R s hi.wk⟩⟩⟩⟩⟩⟩⟩⟩⟩⟩⟩⟩⟩⟩⟩⟩⟩⟩⟩⟩⟩⟩⟩⟩
theorem law_run {G : Gl} (hG : gL G ≤ 3072) : ∀ (q i : Nat) (S : Sh) (I : MI) (R : MR) (s : Ms), 513 - i = q → i ≤ 512 → LawI i S I R s → LL_law_18 G 1 1310 (((6 * i : Nat) : Int)) S I R QL := by
  intro q
  induction q with
  | zero => intro i S I R s hq1 hi hL; omega
  | succ q ih =>
    intro i S I R s hq1 hi hL
    exact law_step hG hL hi (fun S' I' R' s' h511 hL' => ih (i + 1) S' I' R' s' (by omega) (by omega) hL')
theorem law_E : ∀ G : Gl, gL G ≤ 3072 → E G M_law 0 (lsArgs 0 [vS]) [] S0 I0 R0 QL := by
  intro G hG
  refine bL_law (fun S1 I1 R1 eS eI eR => ?_)
  have n0 : sN S0 = 1 := rfl
  rw [n0]
  have t1 : sT S1 1 = 9 := by rw [eS]; exact nw_t (S := S0)
  have n1 : sN S1 = 2 := by rw [eS]; rfl
  have u1 : sU S1 ≤ 100 := by rw [eS]; show (0 + 11 : Nat) ≤ 100; decide
  have z1 : I1 1 = fun _ => 0 := by rw [eI]; exact up1_s _ _ _
  refine ⟨by rw [t1]; decide, clsInit t1 n1 u1 z1 (fun S4 I4 R4 n4 u4 hC => fun S8 I8 R8 eS8 eI8 eR8 => ?_)⟩
  rw [n4]
  have g8 : grw S4 I4 R4 S8 I8 R8 1310 := by rw [eS8, eI8, eR8]; exact grw.new (by omega)
  have n8 : sN S8 = 1311 := by rw [eS8, sN_new, n4]
  have u8 : sU S8 = sU S4 + 32 := by rw [eS8, sU_new]
  have t8 : sT S8 1310 = 10 := by rw [eS8, ← n4]; exact nw_t
  have z8 : I8 1310 = fun _ => 0 := by rw [eI8, ← n4]; exact up1_s _ _ _
  clear eS8 eI8 eR8
  refine ⟨by rw [t8]; decide, refInit t8 n8 z8 (fun S9 I9 R9 n9 u9 g9 rf9 f9 w9 r9 => ?_)⟩
  have g := g8.tr g9
  have sm : sam 1 1309 S4 I4 R4 S9 I9 R9 := fun b _ hb => g b (by omega)
  obtain ⟨P, sp, pd, ps, nu, nw, af, hS, hV⟩ := hC
  have nr := hS.nr
  have nlt : nu < sN S4 := hS.1.1.2.1
  have smn : sam nu nu S4 I4 R4 S9 I9 R9 := fun b _ hb => g b (by omega)
  have hC9 : Cls S9 I9 R9 ms0 := ⟨P, sp, pd, ps, nu, nw, af, hS.sm sm smn (by omega), hV.sm hS ms0_ok sm smn⟩
  have hf : ∀ j, j ≠ 1 → j ≠ 2 → j ≠ 15 → I9 1310 j = 0 := f9.2.2.2
  refine law_run hG 513 0 S9 I9 R9 ms0 rfl (by omega) ⟨hC9, ms0_ok, rf9, ⟨⟨f9.1, ⟨by decide, by decide⟩, w9, ms0_ok.2.2.1⟩, ⟨f9.2.1, by decide, by decide⟩, fun k hk => ⟨r9 k, fun j t ht => by cases ht⟩, ⟨hf 11 (by decide) (by decide) (by decide), fun i hi => absurd hi (Nat.not_lt_zero _)⟩, ⟨hf 14 (by decide) (by decide) (by decide), f9.2.2.1⟩, ⟨hf 19 (by decide) (by decide) (by decide), Arr.nil⟩, hf 20 (by decide) (by decide) (by decide)⟩, ⟨by omega, by omega⟩, by omega⟩
