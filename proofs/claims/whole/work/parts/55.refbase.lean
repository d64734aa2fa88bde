/-! ===== X10: shape, order, rows ===== -/
def RfS (S : Sh) (R : MR) (m : Nat) : Prop := sT S m = 10 ∧ ((R m 3 = m + 1 ∧ R m 4 = m + 2 ∧ R m 5 = m + 3 ∧ R m 6 = m + 4) ∧ (R m 7 = m + 5 ∧ R m 8 = m + 6 ∧ R m 10 = m + 7 ∧ R m 17 = m + 8) ∧ (R m 18 = m + 9 ∧ R m 26 = m + 10 ∧ R m 27 = m + 11 ∧ R m 29 = m + 12) ∧ R m 30 = m + 13 ∧ R m 31 = m + 14) ∧
  ((sT S (m + 1) = 21 ∧ sT S (m + 2) = 21 ∧ sT S (m + 3) = 21 ∧ sT S (m + 4) = 21) ∧ (sT S (m + 5) = 21 ∧ sT S (m + 6) = 21 ∧ sT S (m + 7) = 22 ∧ sT S (m + 8) = 21) ∧ (sT S (m + 9) = 21 ∧ sT S (m + 10) = 21 ∧ sT S (m + 11) = 21 ∧ sT S (m + 12) = 21) ∧ sT S (m + 13) = 23 ∧ sT S (m + 14) = 21) ∧
  ((sL S (m + 1) = 3 ∧ sL S (m + 2) = 300 ∧ sL S (m + 3) = 18000 ∧ sL S (m + 4) = 54000) ∧ (sL S (m + 5) = 4000 ∧ sL S (m + 6) = 12000 ∧ sL S (m + 7) = 200 ∧ sL S (m + 8) = 3) ∧ (sL S (m + 9) = 2000 ∧ sL S (m + 10) = 200 ∧ sL S (m + 11) = 3000 ∧ sL S (m + 12) = 14400) ∧ sL S (m + 13) = 120 ∧ sL S (m + 14) = 120)
def RfW (I : MI) (m : Nat) (n : Int) (w : Nat → Int) : Prop := I m 1 = n ∧ (1 ≤ n ∧ n ≤ 3) ∧ (∀ i, i < 3 → I (m + 1) i = w i) ∧ wtOK w
def RfP (I : MI) (m : Nat) (p : Int) : Prop := I m 2 = p ∧ 2 ≤ p ∧ p ≤ 32749
theorem isIn_eq {m : Nat} {a lo hi : Int} (ha : InL a) (hl : InL lo) (hh : InL hi) : vX10_isIn m a lo hi = if lo ≤ a ∧ a ≤ hi then 1 else 0 := by
  unfold vX10_isIn
  rw [lcmp_eq ha hl, lcmp_eq ha hh]
  by_cases c1 : lo ≤ a
  · by_cases c2 : a ≤ hi
    · rw [if_pos (⟨c1, c2⟩ : lo ≤ a ∧ a ≤ hi), if_neg, if_neg]
      · by_cases e : a = hi
        · rw [if_neg (show ¬ hi < a by omega), if_pos e]; omega
        · rw [if_neg (show ¬ hi < a by omega), if_neg e]; omega
      · by_cases e : lo < a
        · rw [if_pos e]; omega
        · rw [if_neg e, if_pos (show a = lo by omega)]; omega
    · rw [if_neg (show ¬ (lo ≤ a ∧ a ≤ hi) by omega), if_neg, if_pos]
      · rw [if_pos (show hi < a by omega)]; omega
      · by_cases e : lo < a
        · rw [if_pos e]; omega
        · rw [if_neg e, if_pos (show a = lo by omega)]; omega
  · rw [if_neg (show ¬ (lo ≤ a ∧ a ≤ hi) by omega), if_pos]
    rw [if_neg (show ¬ lo < a by omega), if_neg (show ¬ a = lo by omega)]; omega
theorem isIn_1 {m : Nat} {a lo hi : Int} (h : lo ≤ a ∧ a ≤ hi) (ha : InL a) (hl : InL lo) (hh : InL hi) : vX10_isIn m a lo hi = 1 := by rw [isIn_eq ha hl hh, if_pos h]
theorem isIn_0 {m : Nat} {a lo hi : Int} (h : ¬ (lo ≤ a ∧ a ≤ hi)) (ha : InL a) (hl : InL lo) (hh : InL hi) : vX10_isIn m a lo hi = 0 := by rw [isIn_eq ha hl hh, if_neg h]
theorem isIn_01 {m : Nat} {a lo hi : Int} (ha : InL a) (hl : InL lo) (hh : InL hi) : vX10_isIn m a lo hi = 0 ∨ vX10_isIn m a lo hi = 1 := by
  rw [isIn_eq ha hl hh]
  by_cases c : lo ≤ a ∧ a ≤ hi
  · rw [if_pos c]; exact Or.inr rfl
  · rw [if_neg c]; exact Or.inl rfl
theorem inl_r {a : Int} (h : InR a) : InL a := by unfold InR at h; unfold InL; omega
theorem inl_n {a : Int} (h : -1000000 ≤ a ∧ a ≤ 1000000) : InL a := by unfold InL; omega
section RB
variable {S : Sh} {I : MI} {R : MR} {m : Nat} {n p : Int} {w : Nat → Int}
theorem v10at {r j : Nat} (hr : r < 300) (hj : j < 60) : vX10_at m (r : Int) (j : Int) = ((60 * r + j : Nat) : Int) := by
  unfold vX10_at
  rw [w32_id (x := 60 * (r : Int)) (by omega), w32_id (by omega)]; omega
theorem v10pow (h : RfS S R m) {r j v : Nat} (hr : r < 300) (hj : j < 60) (hv : v < 3) : vX10_power I R m (r : Int) (j : Int) (v : Int) = I (m + 4) (3 * (60 * r + j) + v) := by
  unfold vX10_power
  rw [v10at hr hj, h.2.1.1.2.2.2, w32_id (x := 3 * ((60 * r + j : Nat) : Int)) (by omega), w32_id (by omega)]
  rw [show Int.toNat (3 * ((60 * r + j : Nat) : Int) + (v : Int)) = 3 * (60 * r + j) + v by omega]
theorem p10pow (h : RfS S R m) {r j v : Nat} (hr : r < 300) (hj : j < 60) (hv : v < 3) : pX10_power S R m (r : Int) (j : Int) (v : Int) := by
  unfold pX10_power
  rw [v10at hr hj, h.2.1.1.2.2.2, h.2.2.1.1.2.2.2, h.2.2.2.1.2.2.2, w32_id (x := 3 * ((60 * r + j : Nat) : Int)) (by omega), w32_id (by omega)]
  exact ⟨h.1, rfl, ⟨by omega, by omega⟩, trivial⟩
theorem p10deg (h : RfS S R m) {a b c : Int} : pX10_degreeOf S I R m a b c := by
  unfold pX10_degreeOf
  rw [h.2.1.1.1, h.2.2.1.1.1, h.2.2.2.1.1]
  exact ⟨h.1, rfl, by omega, ⟨fun _ => ⟨fun _ => trivial, fun _ => ⟨by omega, trivial⟩⟩, fun _ => ⟨by omega, fun _ => trivial, fun _ => ⟨by omega, trivial⟩⟩⟩⟩
theorem mulw {x c : Int} (hx : 0 ≤ x ∧ x < 1000) (hc : 1 ≤ c ∧ c ≤ 4) : 0 ≤ c * x ∧ c * x ≤ 3996 ∧ c * x = x * c := by
  have : c = 1 ∨ c = 2 ∨ c = 3 ∨ c = 4 := by omega
  rcases this with rfl | rfl | rfl | rfl <;> omega
theorem v10deg (h : RfS S R m) (hw : RfW I m n w) {a b c : Int} (ha : 0 ≤ a ∧ a < 1000) (hb : 0 ≤ b ∧ b < 1000) (hc : 0 ≤ c ∧ c < 1000) (h1 : n ≤ 1 → b = 0) (h2 : n ≤ 2 → c = 0) : vX10_degreeOf I R m a b c = a * w 0 + b * w 1 + c * w 2 := by
  unfold vX10_degreeOf
  rw [h.2.1.1.1, hw.1, show Int.toNat 0 = 0 from rfl, show Int.toNat 1 = 1 from rfl, show Int.toNat 2 = 2 from rfl, hw.2.2.1 0 (by omega), hw.2.2.1 1 (by omega), hw.2.2.1 2 (by omega)]
  have ma := mulw ha (hw.2.2.2 0 (by omega))
  have mb := mulw hb (hw.2.2.2 1 (by omega))
  have mc := mulw hc (hw.2.2.2 2 (by omega))
  rw [w32_id (x := w 0 * a) (by omega), w32_id (x := w 1 * b) (by omega), w32_id (x := w 2 * c) (by omega)]
  by_cases c1 : n ≤ 1
  · have e1 := h1 c1
    have e2 := h2 (by omega)
    rw [if_pos c1, if_pos (show n ≤ 2 by omega), w32_id (x := w 0 * a + 0) (by omega), w32_id (by omega), e1, e2]; omega
  · rw [if_neg c1]
    by_cases c2 : n ≤ 2
    · have e2 := h2 c2
      rw [if_pos c2, w32_id (x := w 0 * a + w 1 * b) (by omega), w32_id (by omega), e2]; omega
    · rw [if_neg c2, w32_id (x := w 0 * a + w 1 * b) (by omega), w32_id (by omega)]; omega
/-- a key that the reference can hold -/
def kOK (n : Int) (w : Nat → Int) (k : Int) : Prop := gk w k ∧ inV n k
theorem p10cmp (h : RfS S R m) {a b c d e f : Int} : pX10_compares S I R m a b c d e f := ⟨h.1, p10deg h, p10deg h, trivial⟩
theorem v10cmp (h : RfS S R m) (hw : RfW I m n w) {k l : Int} (hk : kOK n w k) (hl : kOK n w l) : (vX10_compares I R m (exx k) (exy k) (exz k) (exx l) (exy l) (exz l) < 0 ↔ k < l) ∧ (vX10_compares I R m (exx k) (exy k) (exz k) (exx l) (exy l) (exz l) = 0 ↔ k = l) := by
  have rk := ex_r k
  have rl := ex_r l
  unfold vX10_compares
  rw [v10deg h hw (by omega) (by omega) (by omega) hk.2.1 hk.2.2, v10deg h hw (by omega) (by omega) (by omega) hl.2.1 hl.2.2]
  have ek := key_gk hk.1
  have el := key_gk hl.1
  unfold key pk at ek el
  have m0 := mul4 (x := exx k) (by omega) (hw.2.2.2 0 (by omega))
  have m1 := mul4 (x := exy k) (by omega) (hw.2.2.2 1 (by omega))
  have m2 := mul4 (x := exz k) (by omega) (hw.2.2.2 2 (by omega))
  have l0 := mul4 (x := exx l) (by omega) (hw.2.2.2 0 (by omega))
  have l1 := mul4 (x := exy l) (by omega) (hw.2.2.2 1 (by omega))
  have l2 := mul4 (x := exz l) (by omega) (hw.2.2.2 2 (by omega))
  have hA : 0 ≤ exx k * w 0 + exy k * w 1 + exz k * w 2 ∧ exx k * w 0 + exy k * w 1 + exz k * w 2 ≤ 756 := by omega
  have hB : 0 ≤ exx l * w 0 + exy l * w 1 + exz l * w 2 ∧ exx l * w 0 + exy l * w 1 + exz l * w 2 ≤ 756 := by omega
  clear m0 m1 m2 l0 l1 l2
  generalize exx k * w 0 + exy k * w 1 + exz k * w 2 = A at *
  generalize exx l * w 0 + exy l * w 1 + exz l * w 2 = B at *
  rw [w32_id (x := A - B) (by omega), w32_id (x := exz l - exz k) (by omega), w32_id (x := exy l - exy k) (by omega), w32_id (x := exx l - exx k) (by omega)]
  by_cases c0 : A - B = 0
  · rw [if_pos c0]
    by_cases c1 : exx k = exx l
    · rw [if_pos c1]
      by_cases c2 : exy k = exy l
      · rw [if_pos c2]; omega
      · rw [if_neg c2]; omega
    · rw [if_neg c1]; omega
  · rw [if_neg c0]; omega
/-- row r holds L -/
def RowH (I : MI) (m r : Nat) (L : List Tm) : Prop := I (m + 2) r = (L.length : Int) ∧ ∀ (j : Nat) (t : Tm), L[j]? = some t → I (m + 3) (60 * r + j) = t.2 ∧ I (m + 4) (3 * (60 * r + j)) = exx t.1 ∧ I (m + 4) (3 * (60 * r + j) + 1) = exy t.1 ∧ I (m + 4) (3 * (60 * r + j) + 2) = exz t.1
theorem RowH.o {I I' : MI} {m r : Nat} {L : List Tm} (h : RowH I m r L) (hl : L.length ≤ 60) (h2 : I' (m + 2) r = I (m + 2) r) (h3 : ∀ j, j < 60 → I' (m + 3) (60 * r + j) = I (m + 3) (60 * r + j)) (h4 : ∀ j, j < 180 → I' (m + 4) (180 * r + j) = I (m + 4) (180 * r + j)) : RowH I' m r L := by
  refine ⟨by rw [h2]; exact h.1, fun j t ht => ?_⟩
  have hj : j < L.length := (List.getElem?_eq_some_iff.mp ht).1
  have := h.2 j t ht
  have e0 := h4 (3 * j) (by omega)
  have e1 := h4 (3 * j + 1) (by omega)
  have e2 := h4 (3 * j + 2) (by omega)
  rw [show 3 * (60 * r + j) = 180 * r + 3 * j by omega] at this ⊢
  rw [h3 j (by omega), e0, show 180 * r + 3 * j + 1 = 180 * r + (3 * j + 1) by omega, e1, show 180 * r + 3 * j + 2 = 180 * r + (3 * j + 2) by omega, e2]
  exact this
/-- a list that the reference can hold -/
def okR (n : Int) (w : Nat → Int) (L : List Tm) : Prop := (∀ t ∈ L, kOK n w t.1 ∧ ¬ hi t.1) ∧ L.length ≤ 60
theorem okQ.toR {p n : Int} {w : Nat → Int} {L : List Tm} (h : okQ p n w L) : okR n w L := ⟨fun t ht => ⟨⟨(h.2.1 t ht).2.2.1, (h.2.1 t ht).2.2.2⟩, (h.2.1 t ht).2.1⟩, h.2.2⟩
theorem RowH.pow (h : RfS S R m) {r j : Nat} {L : List Tm} (hr : r < 300) (hl : L.length ≤ 60) (hL : RowH I m r L) (hj : j < L.length) : vX10_power I R m (r : Int) (j : Int) 0 = exx L[j].1 ∧ vX10_power I R m (r : Int) (j : Int) 1 = exy L[j].1 ∧ vX10_power I R m (r : Int) (j : Int) 2 = exz L[j].1 := by
  have t := hL.2 j L[j] (List.getElem?_eq_getElem hj)
  have e0 := v10pow (I := I) (v := 0) h hr (show j < 60 by omega) (by omega)
  have e1 := v10pow (I := I) (v := 1) h hr (show j < 60 by omega) (by omega)
  have e2 := v10pow (I := I) (v := 2) h hr (show j < 60 by omega) (by omega)
  exact ⟨e0.trans t.2.1, e1.trans t.2.2.1, e2.trans t.2.2.2⟩
theorem p10degree (h : RfS S R m) {r j : Nat} (hr : r < 300) (hj : j < 60) : pX10_degree S I R m (r : Int) (j : Int) :=
  ⟨h.1, p10pow (v := 0) h hr hj (by omega), p10pow (v := 1) h hr hj (by omega), p10pow (v := 2) h hr hj (by omega), p10deg h, trivial⟩
theorem dg_kOK {k : Int} (hk : kOK n w k) : dg k = exx k * w 0 + exy k * w 1 + exz k * w 2 := hk.1
theorem v10degree (h : RfS S R m) (hw : RfW I m n w) {r j : Nat} {L : List Tm} (hr : r < 300) (hl : okR n w L) (hL : RowH I m r L) (hj : j < L.length) : vX10_degree I R m (r : Int) (j : Int) = dg L[j].1 := by
  have e := hL.pow h hr hl.2 hj
  have k := (hl.1 L[j] (List.getElem_mem hj)).1
  have r := ex_r L[j].1
  unfold vX10_degree
  rw [e.1, e.2.1, e.2.2, v10deg h hw (by omega) (by omega) (by omega) k.2.1 k.2.2]
  exact (dg_kOK k).symm
end RB
