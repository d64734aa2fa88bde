/-! ===== texts: a StringBuilder holds a list of bytes ===== -/
def SbH (c U0 N0 : Nat) (S : Sh) (I : MI) (R : MR) (b : Nat) (L : List Int) (n : Nat) : Prop :=
  (sT S b = 11 ∧ c ≤ b ∧ b < sN S) ∧ (sT S (R b 0) = 22 ∧ c ≤ R b 0 ∧ R b 0 < sN S) ∧ (L.length ≤ n ∧ n ≤ sL S (R b 0) ∧ sL S (R b 0) ≤ 2 * n + 34) ∧ (I b 1 = 0 ∧ I b 3 = (L.length : Int)) ∧ Arr I (R b 0) L ∧ (sU S ≤ U0 + 2 * sL S (R b 0) ∧ sN S ≤ N0 + sL S (R b 0))
/-- a text: its bytes -/
def StH (c : Nat) (S : Sh) (I : MI) (R : MR) (t : Nat) (L : List Int) : Prop :=
  (sT S t = 10 ∧ c ≤ t ∧ t < sN S) ∧ (sT S (R t 0) = 22 ∧ c ≤ R t 0 ∧ R t 0 < sN S) ∧ sL S (R t 0) = L.length ∧ I t 1 = 0 ∧ Arr I (R t 0) L
theorem shr_0 {x : Int} (h : InR x) : ishr x 0 = x := by
  rw [ishr_eq h (by omega) (by omega)]
  show x / ((1 : Nat) : Int) = x
  omega
theorem shl_0 {x : Int} (h : 0 ≤ x) (h2 : x < 2147483648) : ishl x 0 = x := by
  rw [ishl_eq h (by omega) (by omega) (by show x * ((1 : Nat) : Int) < _; omega)]
  show x * ((1 : Nat) : Int) = x
  omega
theorem cpy_in {f g : Nat → Int} {sp dp n q : Nat} (h : dp ≤ q ∧ q < dp + n) : va_cpy f g sp dp n q = f (sp + (q - dp)) := if_pos h
theorem cpy_out {f g : Nat → Int} {sp dp n q : Nat} (h : ¬ (dp ≤ q ∧ q < dp + n)) : va_cpy f g sp dp n q = g q := if_neg h
section SB
variable {G : Gl} {S : Sh} {I : MI} {R : MR} {c U0 N0 b : Nat} {L : List Int}
theorem newL {x0 x1 x2 : Int} {a : Int} (e : x0 + max x1 x2 = a) (h : 0 < a ∧ a ≤ 1000000) : pJ8_newLength_cabcc x0 x1 x2 ∧ vJ8_newLength_cabcc x0 x1 x2 = a := by
  have hw : w32 (x0 + max x1 x2) = a := by rw [e]; exact w32_id ⟨by omega, by omega⟩
  unfold pJ8_newLength_cabcc vJ8_newLength_cabcc
  rw [hw]
  exact ⟨⟨fun q => by omega, fun _ => ⟨fun q => by omega, fun _ => trivial⟩⟩, by rw [if_neg (by omega), if_neg (by omega)]⟩
theorem copyOf_spec {Q : Sh → MI → MR → Nat → Prop} {a N : Nat} (ht : sT S a = 22) (hlt : a < sN S) (hne : N ≠ sL S a) (hle : sL S a ≤ N) (hN : N ≤ 1000000)
    (hq : ∀ I', (∀ x, x ≠ sN S → I' x = I x) → (∀ j, j < sL S a → I' (sN S) j = I a j) → Q (shNew S 22 N N) I' (mNew R (sN S) 0) (sN S)) : CR G MJ7_copyOf_9075b [vR a, vI (N : Int)] S I R Q := by
  refine bJ7_copyOf_9075b ⟨by omega, fun _ => ⟨N, rfl, by omega, fun S1 I1 R1 eS eI eR => ?_⟩, fun q => absurd (by omega) q⟩
  have e1 : sT S1 a = 22 := by rw [eS, sT_new, up1_n (by omega)]; exact ht
  have e2 : sT S1 (sN S) = 22 := by rw [eS, sT_new, up1_s]
  have e3 : sL S1 a = sL S a := by rw [eS, sL_new, up1_n (by omega)]
  have e4 : sL S1 (sN S) = N := by rw [eS, sL_new, up1_s]
  have e5 : min (sL S1 a : Int) (N : Int) = (sL S a : Int) := by rw [e3]; omega
  refine ⟨by omega, e1, e2, by omega, by rw [e5]; omega, by rw [e5, e3]; omega, by rw [e5, e4]; omega, fun I2 eI2 => ?_⟩
  rw [e5] at eI2
  rw [eS, eR]
  refine hq I2 (fun x hx => ?_) (fun j hj => ?_)
  · rw [eI2, up1_n hx, eI]; exact up1_n hx
  · rw [eI2, up1_s, show Int.toNat 0 = 0 from rfl, Int.toNat_natCast, cpy_in ⟨Nat.zero_le _, by omega⟩, eI, show 0 + (j - 0) = j by omega]
    exact congrFun (up1_n (by omega)) j
theorem ens_spec {Q : Sh → MI → MR → Prop} {m : Nat} (h : SbH c U0 N0 S I R b L L.length) (hm : L.length ≤ m) (hm2 : m ≤ 20000) (hq : ∀ S' I' R', SbH c U0 N0 S' I' R' b L m → grw S I R S' I' R' c → Q S' I' R') : CV G MJ5_ensureCapacityInternal_d00df [vR b, vI (m : Int)] S I R Q := by
  obtain ⟨⟨t1, c1, n1⟩, ⟨t2, c2, n2⟩, ⟨k1, k2, k3⟩, ⟨v1, v3⟩, ar, u, nn⟩ := h
  have e0 : ishr (sL S (R b 0) : Int) (I b 1) = (sL S (R b 0) : Int) := by rw [v1]; exact shr_0 (by unfold InR; omega)
  have w0 : w32 ((m : Int) - (sL S (R b 0) : Int)) = (m : Int) - (sL S (R b 0) : Int) := w32_id ⟨by omega, by omega⟩
  refine bJ5_ensureCapacityInternal_d00df ⟨t1, by omega, ?_⟩
  rw [e0, w0]
  refine ⟨fun le => hq S I R ⟨⟨t1, c1, n1⟩, ⟨t2, c2, n2⟩, ⟨hm, by omega, by omega⟩, ⟨v1, v3⟩, ar, u, nn⟩ grw.rf, fun gt => ?_⟩
  generalize hcap : sL S (R b 0) = cap at *
  obtain ⟨N, hN⟩ : ∃ N : Nat, N = cap + max (m - cap) (cap + 2) := ⟨_, rfl⟩
  have a1 : ishl (m : Int) (I b 1) = (m : Int) := by rw [v1]; exact shl_0 (by omega) (by omega)
  have a2 : ishl 2 (I b 1) = 2 := by rw [v1]; exact shl_0 (by omega) (by omega)
  have a3 : w32 ((cap : Int) + 2) = (cap : Int) + 2 := w32_id ⟨by omega, by omega⟩
  obtain ⟨p1, p2⟩ := newL (x0 := (cap : Int)) (x1 := (m : Int) - (cap : Int)) (x2 := (cap : Int) + 2) (a := (N : Int)) (by omega) ⟨by omega, by omega⟩
  have q1 : pJ5_newCapacity_0f7a4 S I R b (m : Int) ∧ vJ5_newCapacity_0f7a4 S I R b (m : Int) = (N : Int) := by
    unfold pJ5_newCapacity_0f7a4 vJ5_newCapacity_0f7a4
    rw [hcap, a1, a2, w0, a3, p2, v1]
    refine ⟨⟨t1, by omega, p1, fun _ => trivial, fun z => z (by omega)⟩, ?_⟩
    rw [if_pos (by omega)]
    exact shr_0 (by unfold InR; omega)
  have a4 : ishl (N : Int) (I b 1) = (N : Int) := by rw [v1]; exact shl_0 (by omega) (by omega)
  refine ⟨q1.1, ?_⟩
  rw [q1.2, a4]
  refine copyOf_spec t2 n2 (by omega) (by omega) (by omega) (fun I' hI ha => ?_)
  have bne : b ≠ sN S := by omega
  refine ⟨by rw [sT_new, up1_n bne]; exact t1, fun R' eR => ?_⟩
  have r0 : R' b 0 = sN S := by rw [eR, up2_ss]
  refine hq _ I' R' ⟨⟨by rw [sT_new, up1_n bne]; exact t1, c1, by rw [sN_new]; omega⟩, ⟨by rw [r0, sT_new, up1_s], by rw [r0]; omega, by rw [r0, sN_new]; omega⟩, ?_, ⟨by rw [hI b bne]; exact v1, by rw [hI b bne]; exact v3⟩, ?_, ?_⟩ ?_
  · rw [r0, sL_new, up1_s]
    exact ⟨hm, by omega, by omega⟩
  · rw [r0]
    intro i x hx
    have hi : i < L.length := (List.getElem?_eq_some_iff.mp hx).1
    rw [ha i (by omega)]
    exact ar i x hx
  · rw [r0, sL_new, up1_s, sU_new, sN_new]
    exact ⟨by omega, by omega⟩
  · intro x hx
    have xn : x ≠ sN S := by omega
    exact ⟨by rw [sT_new, up1_n xn], by rw [sL_new, up1_n xn], hI x xn, by rw [eR, up2_n (by omega)]; exact up1_n xn⟩
/-- one letter more -/
theorem appC_spec {Q : Sh → MI → MR → Nat → Prop} {x : Int} (h : SbH c U0 N0 S I R b L L.length) (hx : 0 ≤ x ∧ x < 128) (hm2 : L.length < 20000) (hq : ∀ S' I' R', SbH c U0 N0 S' I' R' b (L ++ [x]) (L ++ [x]).length → grw S I R S' I' R' c → Q S' I' R' b) : CR G MJ4_append_cf468 [vR b, vI x] S I R Q := by
  have h0 := h
  obtain ⟨⟨t1, c1, n1⟩, ⟨t2, c2, n2⟩, ⟨k1, k2, k3⟩, ⟨v1, v3⟩, ar, u, nn⟩ := h
  refine bJ4_append_cf468 ⟨t1, bJ5_append_3fe6f ⟨t1, ?_⟩⟩
  have w1 : w32 (I b 3 + 1) = ((L.length + 1 : Nat) : Int) := by rw [v3]; exact (w32_id ⟨by omega, by omega⟩).trans (by omega)
  rw [w1]
  refine ens_spec h0 (by omega) (by omega) (fun S1 I1 R1 h1 g1 => ?_)
  obtain ⟨⟨t1, c1, n1⟩, ⟨t2, c2, n2⟩, ⟨k1, k2, k3⟩, ⟨v1, v3⟩, ar, u, nn⟩ := h1
  have l1 : vJ5_isLatin1_aae02 I1 b = 1 := by unfold vJ5_isLatin1_aae02; rw [if_neg (by rw [v1]; omega)]
  have l2 : vJ1_canEncode_fc78d x = 1 := by unfold vJ1_canEncode_fc78d; rw [if_neg (by omega)]
  have l3 : i2b x = x := by rw [i2b_eq x (by unfold InR; omega)]; exact Int.bmod_eq_of_le (by omega) (by omega)
  have w2 : w32 (I1 b 3 + 1) = ((L.length + 1 : Nat) : Int) := by rw [v3]; exact (w32_id ⟨by omega, by omega⟩).trans (by omega)
  have ne : R1 b 0 ≠ b := by intro e; rw [e] at t2; omega
  refine ⟨t1, ⟨t1, trivial⟩, fun q => by omega, fun _ => ⟨fun q => by omega, fun _ I2 eI2 => ⟨t2, ⟨by rw [v3]; omega, by rw [v3]; omega⟩, by rw [l3]; omega, fun I3 eI3 => ?_⟩⟩⟩
  rw [w2] at eI2
  rw [v3, l3, Int.toNat_natCast] at eI3
  have o3 : ∀ y, y ≠ b → y ≠ R1 b 0 → I3 y = I1 y := fun y h1 h2 => by rw [eI3, up2_n h2, eI2, up2_n h1]
  have b3 : ∀ j, j ≠ 3 → I3 b j = I1 b j := fun j hj => by rw [eI3, up2_n (Ne.symm ne), eI2, up2_sn hj]
  refine hq S1 I3 R1 ⟨⟨t1, c1, n1⟩, ⟨t2, c2, n2⟩, ?_, ⟨by rw [b3 1 (by omega)]; exact v1, ?_⟩, ?_, u, nn⟩ (g1.tr (fun y hy => ⟨rfl, rfl, o3 y (by omega) (by omega), rfl⟩))
  · rw [List.length_append]; exact ⟨Nat.le_refl _, k2, k3⟩
  · rw [eI3, up2_n (Ne.symm ne), eI2, up2_ss, List.length_append]; rfl
  · refine ar.snoc ?_ (fun j hj => ?_)
    · rw [eI3, up2_ss]
    · rw [eI3, up2_sn (by omega), eI2, up2_n ne]
end SB
