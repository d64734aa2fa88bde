/-! ===== X2: a line becomes a row ===== -/
/-- rows that stand for U -/
def EchI (I : MI) (i : Nat) (p : Int) (W : Nat) (U : Vc → Prop) : Prop := EchU p W (fun c => I (i + 122) c ≠ 0) (fun l => I (i + 2 + l)) U ∧ (∀ l, l < W → I (i + 122) l ≠ 0 → ∀ c, c < W → 0 ≤ I (i + 2 + l) c ∧ I (i + 2 + l) c < p) ∧ (∀ l c, l < 120 → c < l → I (i + 2 + l) c = 0) ∧ ∀ c, c < 120 → I (i + 122) c = 0 ∨ I (i + 122) c = 2
/-- all but its rows and kinds and line stays -/
def offI (I I' : MI) (i : Nat) : Prop := ∀ b, (b < i + 2 ∨ i + 123 < b) → I' b = I b
theorem offI.rf {I : MI} {i : Nat} : offI I I i := fun _ _ => rfl
theorem offI.tr {I I1 I2 : MI} {i : Nat} (h : offI I I1 i) (h2 : offI I1 I2 i) : offI I I2 i := fun b x => (h2 b x).trans (h b x)
theorem off1.toI {I I' : MI} {i : Nat} (h : off1 I I' (i + 123)) : offI I I' i := fun b hb => h b (by omega)
theorem ngP_dvd {p x : Int} : p ∣ ngP p x + x := by
  unfold ngP
  by_cases h : x = 0
  · rw [if_pos h, h]; exact Int.dvd_zero _
  · rw [if_neg h, show p - x + x = p by omega]; exact Int.dvd_refl p
theorem EchI.o {I I' : MI} {i : Nat} {p : Int} {W : Nat} {U : Vc → Prop} (h : EchI I i p W U) (ho : off1 I I' (i + 123)) (hW : W ≤ 120) : EchI I' i p W U := by
  have e1 : (fun c => I' (i + 122) c ≠ 0) = (fun c => I (i + 122) c ≠ 0) := by rw [ho (i + 122) (by omega)]
  refine ⟨⟨fun l hl hk => ?_, fun x => ?_⟩, fun l hl hk => ?_, fun l c hl => ?_, ?_⟩
  · rw [e1] at hk
    have := h.1.1 l hl hk
    show p ∣ I' (i + 2 + l) l - 1 ∧ ∀ c, c < l → p ∣ I' (i + 2 + l) c
    rw [ho (i + 2 + l) (by omega)]; exact this
  · rw [h.1.2 x, e1]
    have : rws W (fun c => I (i + 122) c ≠ 0) (fun l => I' (i + 2 + l)) = rws W (fun c => I (i + 122) c ≠ 0) (fun l => I (i + 2 + l)) := by
      funext y
      refine propext ⟨fun ⟨l, hl, hk, e⟩ => ⟨l, hl, hk, ?_⟩, fun ⟨l, hl, hk, e⟩ => ⟨l, hl, hk, ?_⟩⟩
      · rw [e]; exact ho _ (by omega)
      · rw [e]; exact (ho _ (by omega)).symm
    rw [this]
  · rw [ho (i + 122) (by omega)] at hk
    rw [ho (i + 2 + l) (by omega)]; exact h.2.1 l hl hk
  · rw [ho (i + 2 + l) (by omega)]; exact h.2.2.1 l c hl
  · rw [ho (i + 122) (by omega)]; exact h.2.2.2
/-- one step: a row is taken from a line -/
theorem sub_step {p : Int} {W : Nat} {U : Vc → Prop} {x z z2 row : Vc} {t : Int} {c : Nat} (hU : Sub p W U) (hr : U row) (hz : U (fun j => x j - z j)) (h1 : ∀ j, j < c → z2 j = z j) (h2 : ∀ j, c ≤ j → j < W → z2 j = (z j + t * row j) % p) (h0 : ∀ j, j < c → row j = 0) : U (fun j => x j - z2 j) := by
  refine hU.2.2.2 _ _ (fun j hj => ?_) (hU.sub hz (hU.2.2.1 t _ hr))
  refine emq.mpr ?_
  by_cases hjc : j < c
  · show p ∣ x j - z j - t * row j - (x j - z2 j)
    rw [h1 j hjc, h0 j hjc, Int.mul_zero, show x j - z j - 0 - (x j - z j) = 0 by omega]
    exact Int.dvd_zero _
  · show p ∣ x j - z j - t * row j - (x j - z2 j)
    have := Int.dvd_self_sub_emod (x := z j + t * row j) (m := p)
    rw [h2 j (by omega) hj]
    have h3 := Int.dvd_neg.mpr this
    rw [show -(z j + t * row j - (z j + t * row j) % p) = x j - z j - t * row j - (x j - (z j + t * row j) % p) by omega] at h3
    exact h3
theorem step_zero {p : Int} {t a b : Int} (hb : p ∣ b - 1) (ht : p ∣ t + a) : (a + t * b) % p = 0 := by
  refine emz.mpr ?_
  have h1 := Int.dvd_add ht (dvm t hb)
  rw [Int.mul_sub, Int.mul_one, show t + a + (t * b - t) = a + t * b by omega] at h1
  exact h1
section R2d
variable {G : Gl} {S : Sh} {R : MR} {i nu : Nat} {p : Nat} {Q : Sh → MI → MR → Prop} {U : Vc → Prop} {W : Nat}
theorem insertLine_spec {I : MI} (h : IdS S R i) (hN : NumS S I nu (p : Int)) (pp : isP p) (an : nu < i ∨ i + 123 < nu) (hW : W ≤ 120) (hE : EchI I i (p : Int) W U) (hx : ∀ c, c < W → 0 ≤ I (i + 123) c ∧ I (i + 123) c < (p : Int))
    (hq : ∀ I' U2, offI I I' i → EchI I' i (p : Int) W U2 → (∀ y, U y → U2 y) → U2 (I (i + 123)) → (∀ V, Sub (p : Int) W V → (∀ y, U y → V y) → V (I (i + 123)) → ∀ y, U2 y → V y) → (∀ l, I (i + 122) l ≠ 0 → I' (i + 122) l ≠ 0 ∧ (l < 120 → I' (i + 2 + l) = I (i + 2 + l))) → (∀ b, (∀ j, j < b → I (i + 123) j = 0) → ∀ l, I' (i + 122) l ≠ 0 → I (i + 122) l ≠ 0 ∨ b ≤ l) → Q S I' R) : CV G MX2_insertLine [vR i, vI (W : Int), vR nu] S I R Q := by
  have hp := hN.2.2
  have loop : ∀ (k c : Nat) (I1 : MI), W - c = k → c ≤ W → off1 I I1 (i + 123) → (∀ j, j < W → 0 ≤ I1 (i + 123) j ∧ I1 (i + 123) j < (p : Int)) → (∀ j, j < c → I1 (i + 123) j = 0) → U (fun j => I (i + 123) j - I1 (i + 123) j) → (∀ b, (∀ j, j < b → I (i + 123) j = 0) → ∀ j, j < b → I1 (i + 123) j = 0) → LX2_insertLine_2 G i (W : Int) nu (c : Int) S I1 R Q := by
    intro k
    induction k with
    | zero =>
      intro c I1 hk hc ho hr h0 hz hb
      refine bX2_insertLine_2 (br_t (by omega) (hq I1 U ho.toI (hE.o ho hW) (fun _ hy => hy) ?_ (fun V _ hV _ => hV) (fun l hl => ?_) (fun b hb2 l hl => ?_)))
      · have e := hE.1.sub.2.2.2 _ (I (i + 123)) (fun j hj => by rw [h0 j (by omega), Int.sub_zero]) hz
        exact e
      · rw [ho (i + 122) (by omega)]
        exact ⟨hl, fun q => ho _ (by omega)⟩
      · rw [ho (i + 122) (by omega)] at hl; exact Or.inl hl
    | succ k ih =>
      intro c I1 hk hc ho hr h0 hz hb
      have hcW : c < W := by omega
      have hE1 : EchI I1 i (p : Int) W U := hE.o ho hW
      have hN1 : NumS S I1 nu (p : Int) := ⟨hN.1, by rw [ho nu (by omega)]; exact hN.2.1, hN.2.2⟩
      have hrc := hr c hcW
      have rl := h.2.2.2.1 c (by omega)
      refine bX2_insertLine_2 (br_f (by omega) ?_)
      rw [h.2.1.2.2, h.2.2.2.2.2.1, h.2.2.2.2.2.2, h.2.1.2.1, h.2.2.2.2.1.1, h.2.2.2.2.1.2, show Int.toNat (c : Int) = c by omega]
      refine ⟨h.1, rfl, ⟨by omega, by omega⟩, fun z0 => ?_, fun z0 => ⟨rfl, ⟨by omega, by omega⟩, fun k0 => ?_, fun k0 => ?_⟩⟩
      · refine bX2_insertLine_33 ⟨h.1, ?_⟩
        rw [h.2.1.2.2, h.2.2.2.2.2.1, h.2.2.2.2.2.2, show Int.toNat (c : Int) = c by omega, add1 (by omega)]
        exact ⟨rfl, ⟨by omega, by omega⟩, br_t z0 (ih (c + 1) I1 (by omega) (by omega) ho hr (fun j hj => by
          by_cases q : j = c
          · rw [q]; exact z0
          · exact h0 j (by omega)) hz hb)⟩
      · refine bX2_insertLine_33 ⟨h.1, ?_⟩
        rw [h.2.1.2.2, h.2.2.2.2.2.1, h.2.2.2.2.2.2, show Int.toNat (c : Int) = c by omega, add1 (by omega)]
        refine ⟨rfl, ⟨by omega, by omega⟩, br_f z0 (subtractRow_spec h hN1 (by omega) hW hcW hr (hE1.2.1 c hcW k0) (fun I2 o2 h1 h2 => ih (c + 1) I2 (by omega) (by omega) (fun b hb2 => (o2 b hb2).trans (ho b hb2)) (fun j hj => ?_) (fun j hj => ?_) ?_ (fun b hb2 j hj => ?_)))⟩
        · by_cases q : j < c
          · rw [h1 j (Or.inl q)]; exact hr j hj
          · rw [h2 j (by omega) hj]
            exact ⟨Int.emod_nonneg _ (by omega), Int.emod_lt_of_pos _ (by omega)⟩
        · by_cases q : j < c
          · rw [h1 j (Or.inl q)]; exact h0 j q
          · have e : j = c := by omega
            subst e
            rw [h2 j (by omega) hcW]
            exact step_zero (hE1.1.1 j hcW k0).1 ngP_dvd
        · have hrow : U (I1 (i + 2 + c)) := (hE1.1.2 _).mpr (spn_in ⟨c, hcW, k0, rfl⟩)
          exact sub_step hE1.1.sub hrow hz (fun j hj => h1 j (Or.inl hj)) h2 (fun j hj => hE1.2.2.1 c j (by omega) hj)
        · have hbc : b ≤ c := by
            refine Nat.le_of_not_lt (fun q => z0 ?_)
            exact hb b hb2 c q
          rw [h1 j (Or.inl (by omega))]
          exact hb b hb2 j hj
      · have hk0 : ¬ I1 (i + 122) c ≠ 0 := k0
        have hpos : 0 < I1 (i + 123) c := by omega
        have hiv := inv_ok pp (by omega) ⟨hpos, hrc.2⟩
        refine storeRow_spec h hN1 an hW hcW hr (fun I2 o2 h1 h2 h3 h4 => ?_)
        have hrow0 : ∀ j, j < c → I2 (i + 2 + c) j = 0 := fun j hj => by rw [h1 j (Or.inl hj)]; exact hE1.2.2.1 c j (by omega) hj
        have hro : ∀ l, l ≠ c → l < 120 → I2 (i + 2 + l) = I1 (i + 2 + l) := fun l hl hl2 => o2 _ (by omega) (by omega)
        have hins := ech_ins (Rw2 := fun l => if l = c then I2 (i + 2 + c) else I1 (i + 2 + l)) hE1.1 hcW hk0 hz (fun j hj => by rw [h0 j hj]; exact Int.dvd_zero _) hiv (fun j hj => by
          rw [if_pos rfl]
          by_cases q : j < c
          · rw [hrow0 j q, h0 j q, Int.mul_zero]; exact Int.dvd_zero _
          · rw [h2 j (by omega) hj, Int.mul_comm]
            have := Int.dvd_self_sub_emod (x := inv (p : Int) (I1 (i + 123) c) * I1 (i + 123) j) (m := (p : Int))
            have h5 := Int.dvd_neg.mpr this
            rw [Int.neg_sub] at h5; exact h5) (fun l hl => if_neg hl)
        obtain ⟨U2, hE2, hsub, hxU, hmin⟩ := hins
        have eK : (fun l => I1 (i + 122) l ≠ 0 ∨ l = c) = (fun l => I2 (i + 122) l ≠ 0) := by
          funext l
          by_cases q : l = c
          · subst q
            rw [h4]
            exact propext ⟨fun _ => by decide, fun _ => Or.inr rfl⟩
          · rw [h3 l q]
            exact propext ⟨fun z => z.resolve_right q, Or.inl⟩
        have hr2 : ∀ l, l < 120 → (if l = c then I2 (i + 2 + c) else I1 (i + 2 + l)) = I2 (i + 2 + l) := fun l hl => by
          by_cases q : l = c
          · rw [if_pos q, q]
          · rw [if_neg q, hro l q hl]
        rw [eK] at hE2
        refine hq I2 U2 (fun b hb2 => by rw [o2 b (by omega) (by omega)]; exact ho b (by omega)) ⟨⟨fun l hl hk => ?_, fun x => ?_⟩, fun l hl hk j hj => ?_, fun l j hl hj => ?_, fun l hl => ?_⟩ hsub hxU hmin (fun l hl => ⟨?_, fun hl2 => ?_⟩) (fun b hb2 l hl => ?_)
        · have := hE2.1 l hl hk
          have t1 : (p : Int) ∣ (if l = c then I2 (i + 2 + c) else I1 (i + 2 + l)) l - 1 := this.1
          have t2 : ∀ j, j < l → (p : Int) ∣ (if l = c then I2 (i + 2 + c) else I1 (i + 2 + l)) j := this.2
          rw [hr2 l (by omega)] at t1 t2
          exact ⟨t1, t2⟩
        · rw [hE2.2 x]
          have : rws W (fun l => I2 (i + 122) l ≠ 0) (fun l => if l = c then I2 (i + 2 + c) else I1 (i + 2 + l)) = rws W (fun l => I2 (i + 122) l ≠ 0) (fun l => I2 (i + 2 + l)) := by
            funext y
            refine propext ⟨fun ⟨l, hl, hk, e⟩ => ⟨l, hl, hk, ?_⟩, fun ⟨l, hl, hk, e⟩ => ⟨l, hl, hk, ?_⟩⟩
            · rw [e]; exact hr2 l (by omega)
            · rw [e]; exact (hr2 l (by omega)).symm
          rw [this]
        · by_cases q : l = c
          · subst q
            by_cases q2 : j < l
            · rw [hrow0 j q2]; omega
            · rw [h2 j (by omega) hj]
              exact ⟨Int.emod_nonneg _ (by omega), Int.emod_lt_of_pos _ (by omega)⟩
          · rw [h3 l q] at hk
            rw [hro l q (by omega)]
            exact hE1.2.1 l hl hk j hj
        · by_cases q : l = c
          · subst q; exact hrow0 j hj
          · rw [hro l q hl]; exact hE1.2.2.1 l j hl hj
        · by_cases q : l = c
          · subst q; exact Or.inr h4
          · rw [h3 l q]; exact hE1.2.2.2 l hl
        · rw [← ho (i + 122) (by omega)] at hl
          have : l ≠ c := fun q => hk0 (q ▸ hl)
          rw [h3 l this]; exact hl
        · rw [← ho (i + 122) (by omega)] at hl
          have : l ≠ c := fun q => hk0 (q ▸ hl)
          rw [hro l this hl2]; exact ho _ (by omega)
        · by_cases q : l = c
          · refine Or.inr ?_
            rw [q]
            exact Nat.le_of_not_lt (fun q2 => z0 (hb b hb2 c q2))
          · rw [h3 l q, ho (i + 122) (by omega)] at hl; exact Or.inl hl
  exact bX2_insertLine (loop W 0 I (by omega) (by omega) (fun _ _ => rfl) hx (fun j hj => absurd hj (Nat.not_lt_zero _)) (by
    have e : (fun j => I (i + 123) j - I (i + 123) j) = fun _ => 0 := funext fun j => by omega
    rw [e]; exact hE.1.sub.1) (fun b hb2 => hb2))
end R2d

