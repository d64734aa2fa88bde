/-! ===== texts: numbers and constants added, the text made, asked ===== -/
section SB2
variable {G : Gl} {S : Sh} {I : MI} {R : MR} {c U0 N0 b : Nat} {L : List Int}
theorem sSize_spec {Q : Sh → MI → MR → Int → Prop} {x : Int} (hx : 1 ≤ x ∧ x ≤ 9) (hq : Q S I R 1) : CI G MJ6_stringSize_0f7a4 [vI x] S I R Q := by
  refine bJ6_stringSize_0f7a4 ⟨fun q => by omega, fun _ => ?_⟩
  have e : w32 (-x) = -x := w32_id ⟨by omega, by omega⟩
  rw [e]
  refine bJ6_stringSize_0f7a4_16 ⟨fun q => by omega, fun _ => ⟨fun q => by omega, fun _ => ?_⟩⟩
  have e1 : w32 (1 + 0) = 1 := by decide
  rw [e1]
  exact hq
theorem getChars_spec {Q : Sh → MI → MR → Int → Prop} {x : Int} {a k : Nat} (hx : 1 ≤ x ∧ x ≤ 9) (ht : sT S a = 22) (hk : k < sL S a) (hl : sL S a ≤ 1000000) (hq : ∀ I', I' = up2 I a k (48 + x) → Q S I' R (k : Int)) : CI G MJ6_getChars_ba4f3 [vI x, vI ((k + 1 : Nat) : Int), vR a] S I R Q := by
  refine bJ6_getChars_ba4f3 ⟨fun _ => ?_, fun q => by omega⟩
  have e : w32 (-x) = -x := w32_id ⟨by omega, by omega⟩
  have e2 : w32 (-(-x)) = x := (w32_id ⟨by omega, by omega⟩).trans (by omega)
  have e3 : w32 (((k + 1 : Nat) : Int) + (-1)) = (k : Int) := (w32_id ⟨by omega, by omega⟩).trans (by omega)
  rw [e]
  refine bJ6_getChars_ba4f3_22 ⟨fun _ => ?_, fun q => by omega⟩
  rw [e2, e3]
  refine ⟨by omega, ht, by omega, by omega, fun I2 eI2 => ⟨fun _ => ⟨fun _ => hq I2 ?_, fun q => absurd rfl q⟩, fun q => by omega⟩⟩
  rw [eI2, Int.toNat_natCast, show x % 10 = x by omega]
/-- a number of one digit -/
theorem appI_spec {Q : Sh → MI → MR → Nat → Prop} {x : Int} (h : SbH c U0 N0 S I R b L L.length) (hx : 1 ≤ x ∧ x ≤ 9) (hm2 : L.length < 20000) (hq : ∀ S' I' R', SbH c U0 N0 S' I' R' b (L ++ [48 + x]) (L ++ [48 + x]).length → grw S I R S' I' R' c → Q S' I' R' b) : CR G MJ4_append_bf812 [vR b, vI x] S I R Q := by
  have h0 := h
  obtain ⟨⟨t1, c1, n1⟩, ⟨t2, c2, n2⟩, ⟨k1, k2, k3⟩, ⟨v1, v3⟩, ar, u, nn⟩ := h
  refine bJ4_append_bf812 ⟨t1, bJ5_append_c97b9 ⟨t1, sSize_spec hx ⟨t1, ?_⟩⟩⟩
  have w1 : w32 (I b 3 + 1) = ((L.length + 1 : Nat) : Int) := by rw [v3]; exact (w32_id ⟨by omega, by omega⟩).trans (by omega)
  rw [w1]
  refine ens_spec h0 (by omega) (by omega) (fun S1 I1 R1 h1 g1 => ?_)
  obtain ⟨⟨t1, c1, n1⟩, ⟨t2, c2, n2⟩, ⟨k1, k2, k3⟩, ⟨v1, v3⟩, ar, u, nn⟩ := h1
  have l1 : vJ5_isLatin1_aae02 I1 b = 1 := by unfold vJ5_isLatin1_aae02; rw [if_neg (by rw [v1]; omega)]
  have ne : R1 b 0 ≠ b := by intro e; rw [e] at t2; omega
  refine ⟨t1, ⟨t1, trivial⟩, fun q => by omega, fun _ => getChars_spec hx t2 (by omega) (by omega) (fun I2 eI2 => ⟨t1, fun I3 eI3 => ?_⟩)⟩
  have o3 : ∀ y, y ≠ b → y ≠ R1 b 0 → I3 y = I1 y := fun y h1 h2 => by rw [eI3, up2_n h1, eI2, up2_n h2]
  have b3 : ∀ j, j ≠ 3 → I3 b j = I1 b j := fun j hj => by rw [eI3, up2_sn hj, eI2, up2_n (Ne.symm ne)]
  refine hq S1 I3 R1 ⟨⟨t1, c1, n1⟩, ⟨t2, c2, n2⟩, ?_, ⟨by rw [b3 1 (by omega)]; exact v1, ?_⟩, ?_, u, nn⟩ (g1.tr (fun y hy => ⟨rfl, rfl, o3 y (by omega) (by omega), rfl⟩))
  · rw [List.length_append]; exact ⟨Nat.le_refl _, k2, k3⟩
  · rw [eI3, up2_ss, List.length_append]; rfl
  · refine ar.snoc ?_ (fun j hj => ?_)
    · rw [eI3, up2_n ne, eI2, up2_ss]
    · rw [eI3, up2_n ne, eI2, up2_sn (by omega)]
def litL (j : Nat) : List Int := (List.range (litLen.getD j 0)).map (litF j)
theorem litL_len (j : Nat) : (litL j).length = litLen.getD j 0 := by unfold litL; rw [List.length_map, List.length_range]
theorem litL_get {j k : Nat} (h : k < litLen.getD j 0) : (litL j)[k]? = some (litF j k) := by
  unfold litL
  rw [List.getElem?_map, List.getElem?_range h]
  rfl
/-- a constant of text -/
theorem appS_spec {Q : Sh → MI → MR → Nat → Prop} {j : Nat} (h : SbH c U0 N0 S I R b L L.length) (hj : j < 6) (hm2 : L.length < 10000) (hq : ∀ S' I' R', SbH c U0 N0 S' I' R' b (L ++ litL j) (L ++ litL j).length → grw S I R S' I' R' c → Q S' I' R' b) : CR G MJ4_append_15ec4 [vR b, vO (j + 1)] S I R Q := by
  have h0 := h
  have hlj := litLen_le j hj
  obtain ⟨⟨t1, c1, n1⟩, ⟨t2, c2, n2⟩, ⟨k1, k2, k3⟩, ⟨v1, v3⟩, ar, u, nn⟩ := h
  have vl : vJ0_length_8abf5_K j = (litLen.getD j 0 : Int) := by unfold vJ0_length_8abf5_K vJ0_coder_7d493_K; exact shr_0 (by unfold InR; omega)
  refine bJ4_append_15ec4 ⟨t1, bJ5_append_cf1ce ⟨hj, ⟨hj, ⟨hj, trivial⟩, trivial⟩, t1, ?_⟩⟩
  have w1 : w32 (I b 3 + vJ0_length_8abf5_K j) = ((L.length + litLen.getD j 0 : Nat) : Int) := by rw [v3, vl]; exact (w32_id ⟨by omega, by omega⟩).trans (by omega)
  rw [w1]
  refine ens_spec h0 (by omega) (by omega) (fun S1 I1 R1 h1 g1 => ?_)
  obtain ⟨⟨t1, c1, n1⟩, ⟨t2, c2, n2⟩, ⟨k1, k2, k3⟩, ⟨v1, v3⟩, ar, u, nn⟩ := h1
  have ne : R1 b 0 ≠ b := by intro e; rw [e] at t2; omega
  refine ⟨t1, bJ5_putStringAt_47b60 ⟨t1, bJ5_inflateIfNeededFor_a7421 ⟨t1, hj, ⟨hj, trivial⟩, fun _ => ⟨t1, hj, ?_⟩, fun q => q v1⟩⟩⟩
  have sh : ishl (I1 b 3) (I1 b 1) = (L.length : Int) := by rw [v1, v3]; exact shl_0 (by omega) (by omega)
  refine bJ0_getBytes_840e7 ⟨hj, ⟨hj, trivial⟩, fun q => q (by rw [v1]; rfl), fun _ => ⟨t2, by omega, by rw [sh]; omega, by omega, by omega, by rw [sh]; omega, fun I2 eI2 => ⟨t1, fun I3 eI3 => ?_⟩⟩⟩
  rw [sh, Int.toNat_natCast, Int.toNat_natCast, show Int.toNat 0 = 0 from rfl] at eI2
  have b2 : I2 b = I1 b := by rw [eI2, up1_n (Ne.symm ne)]
  have w2 : w32 (I2 b 3 + vJ0_length_8abf5_K j) = ((L.length + litLen.getD j 0 : Nat) : Int) := by rw [b2, v3, vl]; exact (w32_id ⟨by omega, by omega⟩).trans (by omega)
  rw [w2] at eI3
  have o3 : ∀ y, y ≠ b → y ≠ R1 b 0 → I3 y = I1 y := fun y h1 h2 => by rw [eI3, up2_n h1, eI2, up1_n h2]
  have b3 : ∀ q, q ≠ 3 → I3 b q = I1 b q := fun q hq => by rw [eI3, up2_sn hq, b2]
  have a3 : I3 (R1 b 0) = va_cpy (litF j) (I1 (R1 b 0)) 0 L.length (litLen.getD j 0) := by rw [eI3, up2_n ne, eI2, up1_s]
  have ll : (L ++ litL j).length = L.length + litLen.getD j 0 := by rw [List.length_append, litL_len]
  refine hq S1 I3 R1 ⟨⟨t1, c1, n1⟩, ⟨t2, c2, n2⟩, ?_, ⟨by rw [b3 1 (by omega)]; exact v1, ?_⟩, ?_, u, nn⟩ (g1.tr (fun y hy => ⟨rfl, rfl, o3 y (by omega) (by omega), rfl⟩))
  · rw [ll]; exact ⟨Nat.le_refl _, k2, k3⟩
  · rw [eI3, up2_ss, ll]
  · intro i x hx
    rw [a3]
    by_cases hi : i < L.length
    · rw [List.getElem?_append_left hi] at hx
      rw [cpy_out (by omega)]
      exact ar i x hx
    · rw [List.getElem?_append_right (by omega)] at hx
      have hi2 : i - L.length < litLen.getD j 0 := by
        have := (List.getElem?_eq_some_iff.mp hx).1
        rwa [litL_len] at this
      rw [litL_get hi2] at hx
      rw [cpy_in ⟨by omega, by omega⟩, Nat.zero_add]
      exact Option.some.inj hx
/-- a new one -/
theorem sbInit_spec {Q : Sh → MI → MR → Prop} (ht : sT S b = 11) (hb : b + 1 = sN S) (hz : I b = fun _ => 0) (hc : c ≤ b) (hq : ∀ S' I' R', SbH c (sU S) (sN S) S' I' R' b [] 0 → grw S I R S' I' R' c → Q S' I' R') : CV G MJ4_init_da8c8 [vR b] S I R Q := by
  refine bJ4_init_da8c8 ⟨by omega, bJ5_init_d00df ⟨by omega, 16, rfl, by omega, fun S1 I1 R1 eS eI eR => ?_⟩⟩
  have bne : b ≠ sN S := by omega
  have tb : sT S1 b = 11 := by rw [eS, sT_new, up1_n bne]; exact ht
  refine ⟨tb, fun R2 eR2 I2 eI2 => ?_⟩
  have r0 : R2 b 0 = sN S := by rw [eR2, up2_ss]
  have ib : ∀ j, I2 b j = 0 := fun j => by
    rw [eI2, up2_s, eI]
    unfold mNew up1
    by_cases hj : j = 1
    · rw [if_pos hj]
    · rw [if_neg hj, if_neg bne, hz]
  refine hq S1 I2 R2 ⟨⟨tb, hc, by rw [eS, sN_new]; omega⟩, ⟨by rw [r0, eS, sT_new, up1_s], by rw [r0]; omega, by rw [r0, eS, sN_new]; omega⟩, ?_, ⟨ib 1, ib 3⟩, Arr.nil, ?_⟩ ?_
  · rw [r0, eS, sL_new, up1_s]
    exact ⟨Nat.le_refl _, by omega, by omega⟩
  · rw [r0, eS, sL_new, up1_s, sU_new, sN_new]
    exact ⟨by omega, by omega⟩
  · intro x hx
    have xn : x ≠ sN S := by omega
    have xb : x ≠ b := by omega
    exact ⟨by rw [eS, sT_new, up1_n xn], by rw [eS, sL_new, up1_n xn], by rw [eI2, up2_n xb, eI]; exact up1_n xn, by rw [eR2, up2_n xb, eR]; exact up1_n xn⟩
theorem copyRange_spec {Q : Sh → MI → MR → Nat → Prop} {a n : Nat} (ht : sT S a = 22) (hlt : a < sN S) (hn : n ≤ sL S a) (hl : sL S a ≤ 1000000)
    (hq : ∀ I', (∀ x, x ≠ sN S → I' x = I x) → (∀ j, j < n → I' (sN S) j = I a j) → Q (shNew S 22 n n) I' (mNew R (sN S) 0) (sN S)) : CR G MJ7_copyOfRange_39247 [vR a, vI 0, vI (n : Int)] S I R Q := by
  refine bJ7_copyOfRange_39247 ⟨fun q => absurd rfl q, fun _ => ⟨by omega, fun e => ⟨ht, fun S1 I1 R1 eS eI eR => ?_⟩, fun ne => ?_⟩⟩
  · have en : sL S a = n := by omega
    rw [en] at eS
    refine ⟨by rw [eS, sT_new, up1_s], ?_⟩
    rw [eS, eR]
    exact hq I1 (fun x hx => by rw [eI]; exact up1_n hx) (fun j hj => by rw [eI]; unfold mCl; rw [up1_s])
  · refine bJ7_copyOfRangeByte_39247 (bJ7_checkLength_df160 ⟨fun _ => ?_, fun q => by omega⟩)
    have w0 : w32 ((n : Int) - 0) = (n : Int) := (w32_id ⟨by omega, by omega⟩).trans (by omega)
    refine ⟨n, w0, by omega, fun S1 I1 R1 eS eI eR => ?_⟩
    have e1 : sT S1 a = 22 := by rw [eS, sT_new, up1_n (by omega)]; exact ht
    have e2 : sT S1 (sN S) = 22 := by rw [eS, sT_new, up1_s]
    have e3 : sL S1 a = sL S a := by rw [eS, sL_new, up1_n (by omega)]
    have e4 : sL S1 (sN S) = n := by rw [eS, sL_new, up1_s]
    have w1 : w32 ((sL S1 a : Int) - 0) = (sL S a : Int) := by rw [e3]; exact (w32_id ⟨by omega, by omega⟩).trans (by omega)
    have e5 : min (w32 ((sL S1 a : Int) - 0)) (w32 ((n : Int) - 0)) = (n : Int) := by rw [w0, w1]; omega
    refine ⟨by omega, e1, e2, by omega, by omega, by rw [e5]; omega, by rw [e5, e3]; omega, by rw [e5, e4]; omega, fun I2 eI2 => ?_⟩
    rw [e5, Int.toNat_natCast, show Int.toNat 0 = 0 from rfl] at eI2
    rw [eS, eR]
    refine hq I2 (fun x hx => by rw [eI2, up1_n hx, eI]; exact up1_n hx) (fun j hj => ?_)
    rw [eI2, up1_s, cpy_in ⟨Nat.zero_le _, by omega⟩, eI, show 0 + (j - 0) = j by omega]
    exact congrFun (up1_n (by omega)) j
/-- the text of a StringBuilder -/
theorem toStr_spec {Q : Sh → MI → MR → Nat → Prop} (h : SbH c U0 N0 S I R b L L.length) (hl : L.length ≤ 20000) (hq : ∀ S' I' R', StH (sN S) S' I' R' (sN S) L → grw S I R S' I' R' (sN S) → sN S' = sN S + 2 → sU S' = sU S + 4 + L.length → Q S' I' R' (sN S)) : CR G MJ4_toString_0e30d [vR b] S I R Q := by
  obtain ⟨⟨t1, c1, n1⟩, ⟨t2, c2, n2⟩, ⟨k1, k2, k3⟩, ⟨v1, v3⟩, ar, u, nn⟩ := h
  refine bJ4_toString_0e30d (fun S1 I1 R1 eS eI eR => ?_)
  have bne : b ≠ sN S := by omega
  have ane : R b 0 ≠ sN S := by omega
  have tt : sT S1 (sN S) = 10 := by rw [eS, sT_new, up1_s]
  have tb : sT S1 b = 11 := by rw [eS, sT_new, up1_n bne]; exact t1
  have rb : R1 b = R b := by rw [eR]; exact up1_n bne
  have ib : I1 b = I b := by rw [eI]; exact up1_n bne
  have ta : sT S1 (R b 0) = 22 := by rw [eS, sT_new, up1_n ane]; exact t2
  have la : sL S1 (R b 0) = sL S (R b 0) := by rw [eS, sL_new, up1_n ane]
  have ia : I1 (R b 0) = I (R b 0) := by rw [eI]; exact up1_n ane
  have n1' : sN S1 = sN S + 1 := by rw [eS, sN_new]
  have l1 : vJ5_isLatin1_aae02 I1 b = 1 := by unfold vJ5_isLatin1_aae02; rw [if_neg (by rw [ib, v1]; omega)]
  have l2 : vJ4_length_8abf5 I1 b = (L.length : Int) := by unfold vJ4_length_8abf5 vJ5_length_8abf5; rw [ib, v3]
  have l3 : vJ5_getValue_6d5f1 R1 b = R b 0 := by unfold vJ5_getValue_6d5f1; rw [rb]
  refine ⟨by omega, bJ0_init_81219 ⟨by omega, bJ0_init_db425 ⟨by omega, tb, ⟨tb, trivial⟩, ⟨tb, ⟨tb, trivial⟩, trivial⟩, ⟨tb, trivial⟩, fun q => by omega, fun _ => ⟨tt, fun I2 eI2 => ?_⟩⟩⟩⟩
  rw [l2, l3]
  have ia2 : I2 (R b 0) = I (R b 0) := by rw [eI2, up2_n ane]; exact ia
  refine copyRange_spec ta (by omega) (by rw [la]; omega) (by rw [la]; omega) (fun I3 hI3 ha3 => ?_)
  have tn : sN S ≠ sN S1 := by omega
  refine ⟨by rw [sT_new, up1_n tn]; exact tt, fun R4 eR4 => ?_⟩
  have r4 : R4 (sN S) 0 = sN S1 := by rw [eR4, up2_ss]
  refine hq _ I3 R4 ⟨⟨by rw [sT_new, up1_n tn]; exact tt, Nat.le_refl _, by rw [sN_new]; omega⟩, ⟨by rw [r4, sT_new, up1_s], by rw [r4]; omega, by rw [r4, sN_new]; omega⟩, by rw [r4, sL_new, up1_s], ?_, ?_⟩ ?_ (by rw [sN_new]; omega) ?_
  · rw [hI3 _ tn, eI2, up2_ss]
  · rw [r4]
    intro i x hx
    have hi : i < L.length := (List.getElem?_eq_some_iff.mp hx).1
    rw [ha3 i hi, ia2]
    exact ar i x hx
  · intro x hx
    have x1 : x ≠ sN S1 := by omega
    have x2 : x ≠ sN S := by omega
    exact ⟨by rw [sT_new, up1_n x1, eS, sT_new, up1_n x2], by rw [sL_new, up1_n x1, eS, sL_new, up1_n x2], by rw [hI3 x x1, eI2, up2_n x2, eI]; exact up1_n x2, by rw [eR4, up2_n x2]; exact (up1_n x1).trans (by rw [eR]; exact up1_n x2)⟩
  · rw [sU_new, eS, sU_new]
theorem StH.gr {S' : Sh} {I' : MI} {R' : MR} {t c2 : Nat} (h : StH c S I R t L) (g : grw S I R S' I' R' c2) (h1 : t < c2) (h2 : R t 0 < c2) (hn : sN S ≤ sN S') : StH c S' I' R' t L := by
  obtain ⟨⟨t1, c1, n1⟩, ⟨t2, c3, n2⟩, l, v1, ar⟩ := h
  obtain ⟨g1, g2, g3, g4⟩ := g t h1
  obtain ⟨a1, a2, a3, a4⟩ := g _ h2
  exact ⟨⟨g1.trans t1, c1, by omega⟩, ⟨by rw [g4]; exact a1.trans t2, by rw [g4]; exact c3, by rw [g4]; omega⟩, by rw [g4]; exact a2.trans l, by rw [g3]; exact v1, by rw [g4]; exact ar.cg a3⟩
theorem strLen_spec {Q : Sh → MI → MR → Int → Prop} {t : Nat} (h : StH c S I R t L) (hl : L.length ≤ 20000) (hq : Q S I R (L.length : Int)) : CI G MJ0_length_8abf5 [vR t] S I R Q := by
  obtain ⟨⟨t1, c1, n1⟩, ⟨t2, c3, n2⟩, l, v1, ar⟩ := h
  refine sJ0_length_8abf5 ⟨t1, by omega, ⟨t1, by rw [v1]; omega, trivial⟩, trivial⟩ ?_
  have : vJ0_length_8abf5 S I R t = (L.length : Int) := by
    unfold vJ0_length_8abf5 vJ0_coder_7d493
    rw [l, v1]
    exact shr_0 (by unfold InR; omega)
  rw [this]
  exact hq
theorem i2c_id {x : Int} (h : 0 ≤ x ∧ x < 256) : i2c x = x := by
  obtain ⟨n, rfl⟩ : ∃ n : Nat, x = (n : Int) := ⟨x.toNat, by omega⟩
  have := (sb_byte n (by omega)).2.1
  unfold i2c
  rw [ofI, this, ← ofI]
  exact o32 (by unfold InR; omega)
theorem charAt_spec {Q : Sh → MI → MR → Int → Prop} {t i : Nat} {x : Int} (h : StH c S I R t L) (hl : L.length ≤ 20000) (hx : L[i]? = some x) (hx2 : 0 ≤ x ∧ x < 128) (hq : Q S I R x) : CI G MJ0_charAt_5068e [vR t, vI (i : Int)] S I R Q := by
  obtain ⟨⟨t1, c1, n1⟩, ⟨t2, c3, n2⟩, l, v1, ar⟩ := h
  have hi : i < L.length := (List.getElem?_eq_some_iff.mp hx).1
  have l1 : vJ0_isLatin1_aae02 I t = 1 := by unfold vJ0_isLatin1_aae02; rw [if_neg (by rw [v1]; omega)]
  have hv : i2c (iand (I (R t 0) (Int.toNat (i : Int))) 255) = x := by
    rw [Int.toNat_natCast, ar i x hx, iand_255 (by unfold InR; omega), show x % 256 = x by omega]
    exact i2c_id (by omega)
  refine bJ0_charAt_5068e ⟨t1, ⟨t1, trivial⟩, fun q => by omega, fun _ => bJ1_charAt_3b067 ⟨by omega, bJ0_checkIndex_df160 ⟨⟨fun q => by omega, fun _ => ⟨fun _ => trivial, fun q => q (by rw [l]; omega)⟩⟩, t2, by rw [l]; omega, ?_⟩⟩⟩
  rw [hv]
  exact ⟨by omega, by omega, hq⟩
theorem equ_loop {Q : Sh → MI → MR → Int → Prop} {a d : Nat} (ha : sT S a = 22) (hd : sT S d = 22) (la : sL S a = L.length) (ld : sL S d = L.length) (hl : L.length ≤ 20000) (va : Arr I a L) (vd : Arr I d L) (hq : Q S I R 1) : ∀ (k i : Nat), L.length - i = k → i ≤ L.length → LJ1_equals_b5fdf_9 G a d (i : Int) S I R Q := by
  intro k
  induction k with
  | zero => exact fun i h1 h2 => bJ1_equals_b5fdf_9 ⟨by omega, fun _ => hq, fun q => absurd (by rw [la]; omega) q⟩
  | succ k ih =>
    intro i h1 h2
    have hi : i < L.length := by omega
    refine bJ1_equals_b5fdf_9 ⟨by omega, fun q => by rw [la] at q; omega, fun _ => ⟨ha, by rw [la]; omega, hd, by rw [ld]; omega, fun _ => ?_, fun q => absurd ?_ q⟩⟩
    · rw [show w32 ((i : Int) + 1) = ((i + 1 : Nat) : Int) from (w32_id ⟨by omega, by omega⟩).trans (by omega)]
      exact ih (i + 1) (by omega) (by omega)
    · rw [Int.toNat_natCast, va.get hi, vd.get hi]
theorem equals_spec {Q : Sh → MI → MR → Int → Prop} {t u c2 : Nat} (h : StH c S I R t L) (h2 : StH c2 S I R u L) (hl : L.length ≤ 20000) (hq : Q S I R 1) : CI G MJ0_equals_9ea2d [vR t, vR u] S I R Q := by
  obtain ⟨⟨t1, c1, n1⟩, ⟨t2, c3, n2⟩, l, v1, ar⟩ := h
  obtain ⟨⟨s1, d1, m1⟩, ⟨s2, d3, m2⟩, k, w1, br⟩ := h2
  refine bJ0_equals_9ea2d ⟨fun _ => ⟨s1, t1, fun q => absurd (by rw [v1, w1]) q, fun _ => bJ0_equals_9ea2d_36 ⟨t1, s1, ?_⟩⟩, fun _ => hq⟩
  refine bJ1_equals_b5fdf ⟨by omega, by omega, fun q => absurd (by rw [l, k]) q, fun _ => ?_⟩
  refine equ_loop (Q := _) t2 s2 l k hl ar br ⟨fun q => by omega, fun _ => hq⟩ _ 0 rfl (Nat.zero_le _)
end SB2
