/-! ===== X10: reading ===== -/
def BsR (I : MI) (m : Nat) (b : Nat → Int) (n : Nat) (p nv : Int) (w : Nat → Int) : Prop := RfW I m nv w ∧ RfP I m p ∧ (I m 11 = (n : Int) ∧ ∀ i, i < n → iand (I (m + 7) i) 255 = b i ∧ 0 ≤ b i ∧ b i < 256) ∧ n ≤ 200
def offG (I I' : MI) (m : Nat) : Prop := (∀ b, b ≠ m → b ≠ m + 5 → b ≠ m + 6 → b ≠ m + 8 → I' b = I b) ∧ ∀ j, j ≠ 9 → j ≠ 12 → j ≠ 13 → j ≠ 14 → j ≠ 15 → j ≠ 16 → I' m j = I m j
theorem offG.rf {I : MI} {m : Nat} : offG I I m := ⟨fun _ _ _ _ _ => rfl, fun _ _ _ _ _ _ _ => rfl⟩
theorem offG.tr {I I1 I2 : MI} {m : Nat} (h : offG I I1 m) (h2 : offG I1 I2 m) : offG I I2 m := ⟨fun b x y z u => (h2.1 b x y z u).trans (h.1 b x y z u), fun j a b c d e f => (h2.2 j a b c d e f).trans (h.2 j a b c d e f)⟩
theorem offG.u {I I' : MI} {m k : Nat} {v : Int} (e : I' = up2 I m k v) (hk : k = 9 ∨ (12 ≤ k ∧ k ≤ 16)) : offG I I' m := ⟨fun b x _ _ _ => u_n e x, fun j a b c d f g => u_o e (by omega)⟩
theorem offH.toG {I I' : MI} {m : Nat} (h : offH I I' m) : offG I I' m := ⟨fun b x y z _ => h.1 b x y z, fun j a _ _ _ _ _ => h.2 j a⟩
theorem BsR.o {I I' : MI} {m : Nat} {b : Nat → Int} {n : Nat} {p nv : Int} {w : Nat → Int} (h : BsR I m b n p nv w) (ho : offG I I' m) : BsR I' m b n p nv w := by
  have e7 : I' (m + 7) = I (m + 7) := ho.1 _ (by omega) (by omega) (by omega) (by omega)
  have e1 : I' (m + 1) = I (m + 1) := ho.1 _ (by omega) (by omega) (by omega) (by omega)
  have f := fun j (hj : j < 9) => ho.2 j (by omega) (by omega) (by omega) (by omega) (by omega) (by omega)
  refine ⟨⟨by rw [f 1 (by omega)]; exact h.1.1, h.1.2.1, fun i hi => by rw [e1]; exact h.1.2.2.1 i hi, h.1.2.2.2⟩, ⟨by rw [f 2 (by omega)]; exact h.2.1.1, h.2.1.2⟩, ⟨by rw [ho.2 11 (by omega) (by omega) (by omega) (by omega) (by omega) (by omega)]; exact h.2.2.1.1, fun i hi => by rw [e7]; exact h.2.2.1.2 i hi⟩, h.2.2.2⟩
section RG
variable {G : Gl} {S : Sh} {R : MR} {m : Nat} {b : Nat → Int} {n : Nat} {p nv : Int} {w : Nat → Int}
theorem see_r {I : MI} (h : BsR I m b n p nv w) (a : Nat) : -1 ≤ Jvm.Pilot.CStairsNearLaw_law_r1133_6cdbb7.see b n a ∧ Jvm.Pilot.CStairsNearLaw_law_r1133_6cdbb7.see b n a < 256 := by
  unfold Jvm.Pilot.CStairsNearLaw_law_r1133_6cdbb7.see
  by_cases c : a < n
  · rw [if_pos c]; have := (h.2.2.1.2 a c).2; omega
  · rw [if_neg c]; omega
theorem v10see (hr : RfS S R m) {I : MI} (h : BsR I m b n p nv w) {a : Nat} (ha : a ≤ n) : pX10_see S I R m (a : Int) ∧ vX10_see I R m (a : Int) = see b n a := by
  have n200 := h.2.2.2
  unfold pX10_see vX10_see
  rw [hr.2.1.2.1.2.2.1, hr.2.2.1.2.1.2.2.1, hr.2.2.2.2.1.2.2.1, h.2.2.1.1, show Int.toNat (a : Int) = a by omega]
  refine ⟨⟨hr.1, fun _ => trivial, fun c => ⟨rfl, ⟨by omega, by omega⟩, trivial⟩⟩, ?_⟩
  unfold see
  by_cases c : a < n
  · rw [if_pos c, if_neg (by omega)]; exact (h.2.2.1.2 a c).1
  · rw [if_neg c, if_pos (by omega)]
theorem v10dig {c : Int} (hc : -1 ≤ c ∧ c < 256) : vX10_isDigit m c ≠ 0 ↔ isDg c := by
  unfold vX10_isDigit
  exact v10in (by unfold InR; omega) (by omega) (by omega)
theorem p10dig (hr : RfS S R m) {c : Int} (hc : -1 ≤ c ∧ c < 256) : pX10_isDigit S m c := ⟨hr.1, isIn_01 (inl_n (by omega)) (inl_n (by omega)) (inl_n (by omega)), trivial⟩
/-- only the spot moves -/
def off12 (I I' : MI) (m : Nat) : Prop := (∀ b, b ≠ m → I' b = I b) ∧ ∀ j, j ≠ 12 → I' m j = I m j
theorem off12.toG {I I' : MI} (h : off12 I I' m) : offG I I' m := ⟨fun b x _ _ _ => h.1 b x, fun j _ a _ _ _ _ => h.2 j a⟩
theorem off12.u {I I' : MI} {v : Int} (e : I' = up2 I m 12 v) : off12 I I' m := ⟨fun b x => u_n e x, fun j a => u_o e a⟩
theorem off12.tr {I I1 I2 : MI} (h : off12 I I1 m) (h2 : off12 I1 I2 m) : off12 I I2 m := ⟨fun b x => (h2.1 b x).trans (h.1 b x), fun j x => (h2.2 j x).trans (h.2 j x)⟩
theorem skips_spec {I : MI} {Q : Sh → MI → MR → Prop} {a : Nat} (hr : RfS S R m) (h : BsR I m b n p nv w) (h12 : I m 12 = (a : Int)) (ha : a ≤ n) (hq : ∀ I', off12 I I' m → I' m 12 = (sk b n a : Int) → Q S I' R) : CV G MX10_skips [vR m] S I R Q := by
  have n200 := h.2.2.2
  have loop : ∀ (k a : Nat) (J : MI), n - a = k → a ≤ n → off12 I J m → J m 12 = (a : Int) → (∀ I', off12 I I' m → I' m 12 = (sk b n a : Int) → Q S I' R) → LX10_skips_0 G m S J R Q := by
    intro k
    induction k with
    | zero =>
      intro a J hk ha ho h12 hq
      have sv := v10see hr (h.o ho.toG) ha
      refine bX10_skips_0 ⟨hr.1, ?_⟩
      rw [h12, sv.2]
      have e : see b n a = -1 := if_neg (by omega)
      refine ⟨sv.1, br_t (by rw [e]; decide) (hq J ho ?_)⟩
      rw [sk_n (by omega)]; exact h12
    | succ k ih =>
      intro a J hk ha ho h12 hq
      have sv := v10see hr (h.o ho.toG) ha
      have han : a < n := by omega
      refine bX10_skips_0 ⟨hr.1, ?_⟩
      rw [h12, sv.2, see_at han, add1 (by omega)]
      refine ⟨sv.1, fun c => hq J ho ?_, fun c => fun J2 e2 => ?_⟩
      · rw [sk_n (fun z => c z.2)]; exact h12
      · have c' := Decidable.not_not.mp c
        refine ih (a + 1) J2 (by omega) (by omega) (ho.tr (off12.u e2)) (u_s e2) ?_
        rw [← sk_y han c']; exact hq
  exact bX10_skips (loop (n - a) a I rfl ha ⟨fun _ _ => rfl, fun _ _ => rfl⟩ h12 hq)
def FltR (I : MI) (m : Nat) (f : Fl) : Prop := I m 13 = 1 ∧ I m 14 = f.1 ∧ I m 15 = f.2
theorem faultyAt_spec {I : MI} {Q : Sh → MI → MR → Prop} {x y : Int} (hr : RfS S R m) (h13 : I m 13 = 0) (hq : ∀ I', offG I I' m → FltR I' m (x, y) → (∀ j, j ≠ 13 → j ≠ 14 → j ≠ 15 → I' m j = I m j) → (∀ b, b ≠ m → I' b = I b) → Q S I' R) : CV G MX10_faultyAt [vR m, vI x, vI y] S I R Q := by
  refine bX10_faultyAt ⟨hr.1, ?_⟩
  rw [h13]
  refine br_t rfl (fun J1 e1 => fun J2 e2 => fun J3 e3 => hq J3 (((offG.u e1 (by omega)).tr (offG.u e2 (by omega))).tr (offG.u e3 (by omega))) ⟨?_, ?_, u_s e3⟩ (fun j a b c => by rw [u_o e3 c, u_o e2 b, u_o e1 a]) (fun b hb => by rw [u_n e3 hb, u_n e2 hb, u_n e1 hb]))
  · rw [u_o e3 (by omega), u_o e2 (by omega), u_s e1]
  · rw [u_o e3 (by omega), u_s e2]
theorem faulty_keep {I : MI} {Q : Sh → MI → MR → Prop} {x y : Int} (hr : RfS S R m) (h13 : I m 13 ≠ 0) (hq : Q S I R) : CV G MX10_faultyAt [vR m, vI x, vI y] S I R Q :=
  bX10_faultyAt ⟨hr.1, br_f h13 hq⟩
theorem rdF_s {most k c a : Nat} {v : Int} (h : a < n) (hd : 48 ≤ b a ∧ b a ≤ 57) : rdF b n most (k + 1) c a v = rdF b n most k (c + 1) (a + 1) (if c < most then 10 * v + b a - 48 else v) := by rw [rdF, if_pos ⟨h, hd⟩]
theorem rdF_e {most k c a : Nat} {v : Int} (h : ¬ (a < n ∧ (48 ≤ b a ∧ b a ≤ 57))) : rdF b n most k c a v = (a, v) := by
  cases k with
  | zero => rfl
  | succ k => rw [rdF, if_neg h]
theorem reads_spec {I : MI} {Q : Sh → MI → MR → Int → Prop} {a most : Nat} (hr : RfS S R m) (h : BsR I m b n p nv w) (h12 : I m 12 = (a : Int)) (ha : a ≤ n) (h13 : I m 13 = 0) (hm : most ≤ 5)
    (hF : ∀ I' v, ((dgs b n most a).1 = a ∨ most < (dgs b n most a).1 - a) → offG I I' m → FltR I' m (1, (a : Int)) → I' (m + 8) = I (m + 8) → Q S I' R v)
    (hS : ∀ I', ¬ ((dgs b n most a).1 = a ∨ most < (dgs b n most a).1 - a) → off12 I I' m → I' m 12 = (sk b n (dgs b n most a).1 : Int) → Q S I' R (dgs b n most a).2) : CI G MX10_reads [vR m, vI (most : Int)] S I R Q := by
  have n200 := h.2.2.2
  have loop : ∀ (k c : Nat) (v : Int) (J : MI), n - (a + c) = k → a + c ≤ n → off12 I J m → J m 12 = ((a + c : Nat) : Int) → 0 ≤ v ∧ v < B10 (min c most) → rdF b n most (n - (a + c)) c (a + c) v = dgs b n most a → LX10_reads_7 G m (most : Int) (a : Int) v S J R Q := by
    intro k
    induction k with
    | zero =>
      intro c v J hk hc ho hj hv hd
      have sv := v10see hr (h.o ho.toG) hc
      have sr := see_r (h.o ho.toG) (a + c)
      have e : see b n (a + c) = -1 := if_neg (by omega)
      have dd := v10dig (m := m) sr
      rw [rdF_e (by omega)] at hd
      refine bX10_reads_7 ⟨hr.1, ?_⟩
      rw [hj, sv.2]
      have d0 : vX10_isDigit m (see b n (a + c)) = 0 := Decidable.of_not_not (fun z => by have := dd.mp z; omega)
      have e1 : (dgs b n most a).1 = a + c := by rw [← hd]
      have e2 : (dgs b n most a).2 = v := by rw [← hd]
      have hq13 : J m 13 = 0 := by rw [ho.2 13 (by omega)]; exact h13
      have bad : ((dgs b n most a).1 = a ∨ most < (dgs b n most a).1 - a) → CV G MX10_faultyAt [vR m, vI 1, vI (a : Int)] S J R (fun S83 I83 R83 => (sT S83 m = 10 ∧ (CV G MX10_skips [vR m] S83 I83 R83 (fun S87 I87 R87 => Q S87 I87 R87 v)))) := fun hb =>
        faultyAt_spec hr hq13 (fun J2 o2 f2 g2 g3 => ⟨hr.1, skips_spec hr ((h.o ho.toG).o o2) (by rw [g2 12 (by omega) (by omega) (by omega)]; exact hj) hc (fun J3 o3 _ => hF J3 v hb ((ho.toG.tr o2).tr o3.toG) ⟨by rw [o3.2 13 (by omega)]; exact f2.1, by rw [o3.2 14 (by omega)]; exact f2.2.1, by rw [o3.2 15 (by omega)]; exact f2.2.2⟩ (by rw [o3.1 _ (by omega), g3 _ (by omega), ho.1 _ (by omega)]))⟩)
      refine ⟨sv.1, p10dig hr sr, br_t d0 ⟨fun z => bad (Or.inl (by omega)), fun z => ?_⟩⟩
      rw [w32_id (by omega)]
      exact ⟨fun z2 => skips_spec hr (h.o ho.toG) hj hc (fun J3 o3 g3 => by rw [← e2]; exact hS J3 (by omega) (ho.tr o3) (by rw [e1]; exact g3)), fun z2 => bad (Or.inr (by omega))⟩
    | succ k ih =>
      intro c v J hk hc ho hj hv hd
      have sv := v10see hr (h.o ho.toG) hc
      have sr := see_r (h.o ho.toG) (a + c)
      have hlt : a + c < n := by omega
      have dd := v10dig (m := m) sr
      have hq13 : J m 13 = 0 := by rw [ho.2 13 (by omega)]; exact h13
      have hB := B10_r (min c most)
      refine bX10_reads_7 ⟨hr.1, ?_⟩
      rw [hj, sv.2, add1 (by omega)]
      by_cases hdig : isDg (see b n (a + c))
      · have d1 := dd.mpr hdig
        rw [see_at hlt] at hdig
        rw [show n - (a + c) = (n - (a + (c + 1))) + 1 by omega, rdF_s hlt hdig, show a + c + 1 = a + (c + 1) by omega] at hd
        refine ⟨sv.1, p10dig hr sr, br_f d1 ?_⟩
        rw [w32_id (x := ((a + c : Nat) : Int) - (a : Int)) (by omega)]
        refine ⟨fun z => fun J2 e2 => ?_, fun z => fun J2 e2 => ?_⟩
        · rw [if_neg (by omega)] at hd
          refine ih (c + 1) v J2 (by omega) (by omega) (ho.tr (off12.u e2)) (u_s e2) ?_ hd
          rw [Nat.min_eq_right (by omega)] at hv ⊢; exact hv
        · rw [if_pos (by omega)] at hd
          rw [see_at hlt, w32_id (x := 10 * v) (by omega), w32_id (x := 10 * v + b (a + c)) (by omega), w32_id (by omega)]
          refine ih (c + 1) _ J2 (by omega) (by omega) (ho.tr (off12.u e2)) (u_s e2) ?_ hd
          rw [Nat.min_eq_left (by omega)] at hv ⊢
          rw [B10_s (by omega)]; omega
      · have d0 : vX10_isDigit m (see b n (a + c)) = 0 := Decidable.of_not_not (fun z => hdig (dd.mp z))
        rw [see_at hlt] at hdig
        rw [rdF_e (fun z => hdig z.2)] at hd
        have e1 : (dgs b n most a).1 = a + c := by rw [← hd]
        have e2 : (dgs b n most a).2 = v := by rw [← hd]
        have bad : ((dgs b n most a).1 = a ∨ most < (dgs b n most a).1 - a) → CV G MX10_faultyAt [vR m, vI 1, vI (a : Int)] S J R (fun S83 I83 R83 => (sT S83 m = 10 ∧ (CV G MX10_skips [vR m] S83 I83 R83 (fun S87 I87 R87 => Q S87 I87 R87 v)))) := fun hb =>
          faultyAt_spec hr hq13 (fun J2 o2 f2 g2 g3 => ⟨hr.1, skips_spec hr ((h.o ho.toG).o o2) (by rw [g2 12 (by omega) (by omega) (by omega)]; exact hj) hc (fun J3 o3 _ => hF J3 v hb ((ho.toG.tr o2).tr o3.toG) ⟨by rw [o3.2 13 (by omega)]; exact f2.1, by rw [o3.2 14 (by omega)]; exact f2.2.1, by rw [o3.2 15 (by omega)]; exact f2.2.2⟩ (by rw [o3.1 _ (by omega), g3 _ (by omega), ho.1 _ (by omega)]))⟩)
        refine ⟨sv.1, p10dig hr sr, br_t d0 ⟨fun z => bad (Or.inl (by omega)), fun z => ?_⟩⟩
        rw [w32_id (x := ((a + c : Nat) : Int) - (a : Int)) (by omega)]
        exact ⟨fun z2 => skips_spec hr (h.o ho.toG) hj hc (fun J3 o3 g3 => by rw [← e2]; exact hS J3 (by omega) (ho.tr o3) (by rw [e1]; exact g3)), fun z2 => bad (Or.inr (by omega))⟩
  refine bX10_reads ⟨hr.1, ?_⟩
  rw [h12]
  exact loop (n - a) 0 0 I rfl ha ⟨fun _ _ => rfl, fun _ _ => rfl⟩ h12 ⟨by decide, by rw [Nat.zero_min]; decide⟩ rfl
end RG
