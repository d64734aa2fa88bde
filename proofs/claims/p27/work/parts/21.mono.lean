/-! ===== monomials as numbers: degree above, exponents turned over below ===== -/
def eM (m : Int) : Int := 262143 - m % 262144
def exx (m : Int) : Int := eM m / 4096
def exy (m : Int) : Int := eM m / 64 % 64
def exz (m : Int) : Int := eM m % 64
def ex (m v : Int) : Int := if v = 0 then exx m else if v = 1 then exy m else exz m
def dg (m : Int) : Int := m / 262144
def pk (d x y z : Int) : Int := d * 262144 + 262143 - (4096 * x + 64 * y + z)
/-- an exponent above 30 -/
def hi (m : Int) : Prop := 30 < exx m ∨ 30 < exy m ∨ 30 < exz m
theorem eM_r (m : Int) : 0 ≤ eM m ∧ eM m < 262144 := by unfold eM; omega
theorem ex_r (m : Int) : 0 ≤ exx m ∧ exx m < 64 ∧ 0 ≤ exy m ∧ exy m < 64 ∧ 0 ≤ exz m ∧ exz m < 64 := by
  have := eM_r m
  unfold exx exy exz
  omega
theorem eM_sum (m : Int) : eM m = 4096 * exx m + 64 * exy m + exz m := by
  have := eM_r m
  unfold exx exy exz
  omega
theorem m_pk (m : Int) : m = pk (dg m) (exx m) (exy m) (exz m) := by
  have := eM_sum m
  unfold pk dg
  rw [← this]
  unfold eM
  omega
theorem eM_pk {d x y z : Int} (hx : 0 ≤ x ∧ x < 64) (hy : 0 ≤ y ∧ y < 64) (hz : 0 ≤ z ∧ z < 64) : eM (pk d x y z) = 4096 * x + 64 * y + z := by
  unfold eM pk
  omega
theorem exx_pk {d x y z : Int} (hx : 0 ≤ x ∧ x < 64) (hy : 0 ≤ y ∧ y < 64) (hz : 0 ≤ z ∧ z < 64) : exx (pk d x y z) = x := by
  unfold exx; rw [eM_pk hx hy hz]; omega
theorem exy_pk {d x y z : Int} (hx : 0 ≤ x ∧ x < 64) (hy : 0 ≤ y ∧ y < 64) (hz : 0 ≤ z ∧ z < 64) : exy (pk d x y z) = y := by
  unfold exy; rw [eM_pk hx hy hz]; omega
theorem exz_pk {d x y z : Int} (hx : 0 ≤ x ∧ x < 64) (hy : 0 ≤ y ∧ y < 64) (hz : 0 ≤ z ∧ z < 64) : exz (pk d x y z) = z := by
  unfold exz; rw [eM_pk hx hy hz]; omega
theorem dg_pk {d x y z : Int} (hx : 0 ≤ x ∧ x < 64) (hy : 0 ≤ y ∧ y < 64) (hz : 0 ≤ z ∧ z < 64) : dg (pk d x y z) = d := by
  unfold dg pk
  omega
theorem flip_eq {m : Int} (h : InR m) : iand (ixor m (-1)) 262143 = eM m := by
  have h2 : InR (-m - 1) := by unfold InR at *; omega
  rw [ixor_m1 h, iand_one h2]
  unfold eM
  omega
theorem vdeg {m : Int} (h : InR m) : vX3_degree m = dg m := by
  unfold vX3_degree dg
  exact ishr_eq h (by decide) (by decide)
theorem vexp {m v : Int} (h : InR m) (hv : v = 0 ∨ v = 1 ∨ v = 2) : vX3_exponent m v = ex m v := by
  have hr := eM_r m
  have hE : InR (eM m) := by unfold InR; omega
  unfold vX3_exponent ex
  rw [flip_eq h]
  rcases hv with rfl | rfl | rfl
  · rw [show w32 (6 * w32 (2 - 0)) = 12 by decide +kernel, ishr_eq hE (by decide) (by decide), iand_63 (by unfold InR; show -2147483648 ≤ eM m / 4096 ∧ eM m / 4096 < 2147483648; omega)]
    unfold exx
    show eM m / 4096 % 64 = if (0 : Int) = 0 then eM m / 4096 else _
    rw [if_pos rfl]
    omega
  · rw [show w32 (6 * w32 (2 - 1)) = 6 by decide +kernel, ishr_eq hE (by decide) (by decide), iand_63 (by unfold InR; show -2147483648 ≤ eM m / 64 ∧ eM m / 64 < 2147483648; omega)]
    rfl
  · rw [show w32 (6 * w32 (2 - 2)) = 0 by decide +kernel, ishr_eq hE (by decide) (by decide), iand_63 (by unfold InR; show -2147483648 ≤ eM m / 1 ∧ eM m / 1 < 2147483648; omega)]
    show eM m / 1 % 64 = eM m % 64
    omega
theorem vof {d x y z : Int} (hd : 0 ≤ d ∧ d < 8000) (hx : 0 ≤ x ∧ x < 64) (hy : 0 ≤ y ∧ y < 64) (hz : 0 ≤ z ∧ z < 64) : vX3_of d x y z = pk d x y z := by
  unfold vX3_of
  rw [ishl_eq hd.1 (by decide) (by decide) (by show d * 262144 < _; omega), ishl_eq hx.1 (by decide) (by decide) (by show x * 4096 < _; omega), ishl_eq hy.1 (by decide) (by decide) (by show y * 64 < _; omega)]
  obtain ⟨a, rfl⟩ := nnI hx.1
  obtain ⟨b, rfl⟩ := nnI hy.1
  obtain ⟨c, rfl⟩ := nnI hz.1
  have e1 : ior ((a : Int) * 4096) ((b : Int) * 64) = ((a * 4096 + b * 64 : Nat) : Int) := by
    have := ior_nat (a := a * 4096) (b := b * 64) (by omega) (by omega)
    rw [Int.natCast_mul, Int.natCast_mul] at this
    refine Eq.trans this ?_
    congr 1
    have h2 := Nat.shiftLeft_add_eq_or_of_lt (i := 12) (b := b * 64) (by omega) a
    rw [Nat.shiftLeft_eq] at h2
    exact h2.symm
  have e2 : ior ((a * 4096 + b * 64 : Nat) : Int) (c : Int) = ((a * 4096 + b * 64 + c : Nat) : Int) := by
    refine Eq.trans (ior_nat (by omega) (by omega)) ?_
    congr 1
    have h2 := Nat.shiftLeft_add_eq_or_of_lt (i := 6) (b := c) (by omega) (a * 64 + b)
    rw [Nat.shiftLeft_eq, show (a * 64 + b) * 2 ^ 6 = a * 4096 + b * 64 by omega] at h2
    exact h2.symm
  show w32 (w32 (d * 262144 + 262143) - ior (ior ((a : Int) * 4096) ((b : Int) * 64)) (c : Int)) = _
  rw [e1, e2, w32_id (x := d * 262144 + 262143) (by omega), w32_id (by omega)]
  unfold pk
  omega
theorem and_hi {a b c : Nat} (ha : a < 64) (hb : b < 64) (hc : c < 64) : (4096 * a + 64 * b + c) &&& 133152 = 0 ↔ a < 32 ∧ b < 32 ∧ c < 32 := by
  have hM : ∀ i, i < 18 → (133152 : Nat).testBit i = true → i = 5 ∨ i = 11 ∨ i = 17 := by decide +kernel
  have tb : ∀ i, (4096 * a + 64 * b + c).testBit i = decide ((4096 * a + 64 * b + c) / 2 ^ i % 2 = 1) := fun i => Nat.testBit_eq_decide_div_mod_eq
  constructor
  · intro h
    have g : ∀ i, (133152 : Nat).testBit i = true → (4096 * a + 64 * b + c).testBit i = false := fun i hi => by
      have := congrArg (fun n => Nat.testBit n i) h
      simp only [Nat.testBit_and, Nat.zero_testBit, hi, Bool.and_true] at this
      exact this
    have g5 := g 5 (by decide +kernel)
    have g11 := g 11 (by decide +kernel)
    have g17 := g 17 (by decide +kernel)
    rw [tb, decide_eq_false_iff_not] at g5 g11 g17
    omega
  · intro h
    apply Nat.eq_of_testBit_eq
    intro i
    rw [Nat.testBit_and, Nat.zero_testBit]
    by_cases hi : i < 18
    · cases hm : (133152 : Nat).testBit i with
      | false => simp
      | true =>
        rw [tb, Bool.and_true, decide_eq_false_iff_not]
        rcases hM i hi hm with rfl | rfl | rfl <;> omega
    · have : (133152 : Nat).testBit i = false := Nat.testBit_lt_two_pow (Nat.lt_of_lt_of_le (show 133152 < 2 ^ 18 by decide) (Nat.pow_le_pow_right (by decide) (by omega)))
      rw [this, Bool.and_false]
theorem vhi {m : Int} (h : InR m) (hx : exx m < 63) (hy : exy m < 63) (hz : exz m < 63) : (vX3_isTooHigh m = 0 ↔ ¬ hi m) ∧ (vX3_isTooHigh m = 0 ∨ vX3_isTooHigh m = 1) := by
  have hr := eM_r m
  have hx2 := ex_r m
  have hs := eM_sum m
  obtain ⟨a, ha⟩ := nnI hx2.1
  obtain ⟨b, hb⟩ := nnI hx2.2.2.1
  obtain ⟨c, hc⟩ := nnI hx2.2.2.2.2.1
  unfold vX3_isTooHigh
  rw [flip_eq h, w32_id (by omega), show eM m + 4161 = ((4096 * (a + 1) + 64 * (b + 1) + (c + 1) : Nat) : Int) by omega]
  have e := iand_nat (a := 4096 * (a + 1) + 64 * (b + 1) + (c + 1)) (b := 133152) (by omega) (by omega)
  have e' : iand ((4096 * (a + 1) + 64 * (b + 1) + (c + 1) : Nat) : Int) 133152 = (((4096 * (a + 1) + 64 * (b + 1) + (c + 1)) &&& 133152 : Nat) : Int) := e
  rw [e']
  have hiff := and_hi (a := a + 1) (b := b + 1) (c := c + 1) (by omega) (by omega) (by omega)
  constructor
  · constructor
    · intro h1
      by_cases h0 : (((4096 * (a + 1) + 64 * (b + 1) + (c + 1)) &&& 133152 : Nat) : Int) = 0
      · have := hiff.mp (by omega)
        unfold hi
        omega
      · rw [if_neg h0] at h1
        omega
    · intro h1
      unfold hi at h1
      rw [if_pos]
      have := hiff.mpr (by omega)
      omega
  · split
    · exact Or.inl rfl
    · exact Or.inr rfl
theorem vtimes {a b : Int} (ha : 0 ≤ a ∧ a < 500000000) (hb : 0 ≤ b ∧ b < 500000000) : vX3_times a b = a + b - 262143 := by
  unfold vX3_times
  rw [w32_id (x := a + b) (by omega), w32_id (by omega)]
theorem vby {a b : Int} (ha : 0 ≤ a ∧ a < 500000000) (hb : 0 ≤ b ∧ b < 500000000) : vX3_by a b = a - b + 262143 := by
  unfold vX3_by
  rw [w32_id (x := a - b) (by omega), w32_id (by omega)]
theorem vdiv {a b : Int} (ha : InR a) (hb : InR b) : vX3_divides a b = if exx a ≤ exx b ∧ exy a ≤ exy b ∧ exz a ≤ exz b then 1 else 0 := by
  unfold vX3_divides
  rw [vexp ha (by decide), vexp hb (by decide), vexp ha (by decide), vexp hb (by decide), vexp ha (by decide), vexp hb (by decide)]
  show (if exx b < exx a then 0 else if exy b < exy a then 0 else if exz b < exz a then 0 else 1) = _
  repeat' split
  all_goals first | rfl | (exfalso; omega)

