/-! ===== x^(p-2) is the inverse ===== -/
def ch : Nat → Nat → Nat
  | _, 0 => 1
  | 0, _ + 1 => 0
  | n + 1, k + 1 => ch n k + ch n (k + 1)
theorem ch_0 (n : Nat) : ch n 0 = 1 := by cases n <;> rfl
theorem ch_s (n k : Nat) : ch (n + 1) (k + 1) = ch n k + ch n (k + 1) := rfl
theorem ch_big : ∀ n k, n < k → ch n k = 0
  | 0, k + 1, _ => rfl
  | n + 1, k + 1, h => by rw [ch_s, ch_big n k (by omega), ch_big n (k + 1) (by omega)]
theorem ch_nn : ∀ n, ch n n = 1
  | 0 => rfl
  | n + 1 => by rw [ch_s, ch_nn n, ch_big n (n + 1) (by omega)]
theorem ch_mul : ∀ n k, (k + 1) * ch (n + 1) (k + 1) = (n + 1) * ch n k
  | 0, 0 => rfl
  | 0, k + 1 => by rw [ch_big 1 (k + 2) (by omega), ch_big 0 (k + 1) (by omega)]; rfl
  | n + 1, 0 => by
    have h := ch_mul n 0
    rw [ch_0] at h ⊢
    rw [ch_s (n + 1) 0, ch_0]
    omega
  | n + 1, k + 1 => by
    have h1 := ch_mul n k
    have h2 := ch_mul n (k + 1)
    rw [ch_s (n + 1) (k + 1), Nat.mul_add, h2, show (k + 1 + 1) * ch (n + 1) (k + 1) = (k + 1) * ch (n + 1) (k + 1) + ch (n + 1) (k + 1) by rw [Nat.add_mul, Nat.one_mul], h1, ch_s n k, show (n + 1 + 1) * (ch n k + ch n (k + 1)) = (n + 1) * (ch n k + ch n (k + 1)) + (ch n k + ch n (k + 1)) by rw [Nat.add_mul, Nat.one_mul], Nat.mul_add]
    omega
def sN1 (f : Nat → Nat) : Nat → Nat
  | 0 => 0
  | n + 1 => sN1 f n + f n
theorem sN1_add (f g : Nat → Nat) : ∀ n, sN1 (fun k => f k + g k) n = sN1 f n + sN1 g n
  | 0 => rfl
  | n + 1 => by rw [sN1, sN1, sN1, sN1_add f g n]; omega
theorem sN1_mul (x : Nat) (f : Nat → Nat) : ∀ n, sN1 (fun k => x * f k) n = x * sN1 f n
  | 0 => rfl
  | n + 1 => by rw [sN1, sN1, sN1_mul x f n, Nat.mul_add]
theorem sN1_head (f : Nat → Nat) : ∀ n, sN1 f (n + 1) = f 0 + sN1 (fun k => f (k + 1)) n
  | 0 => by rw [sN1, sN1, sN1]; omega
  | n + 1 => by rw [sN1, sN1_head f n, sN1]; omega
theorem binom (x : Nat) : ∀ n, (x + 1) ^ n = sN1 (fun k => ch n k * x ^ k) (n + 1)
  | 0 => rfl
  | n + 1 => by
    rw [Nat.pow_succ, binom x n, sN1_head _ (n + 1), ch_0, Nat.pow_zero]
    have e : (fun k => ch (n + 1) (k + 1) * x ^ (k + 1)) = fun k => x * (ch n k * x ^ k) + ch n (k + 1) * x ^ (k + 1) := funext fun k => by
      rw [ch_s, Nat.add_mul, Nat.pow_succ, Nat.mul_comm (x ^ k) x, ← Nat.mul_assoc (ch n k), Nat.mul_comm (ch n k) x, Nat.mul_assoc]
    rw [e, sN1_add, sN1_mul, Nat.mul_add, Nat.mul_one, Nat.mul_comm _ x]
    have h := sN1_head (fun k => ch n k * x ^ k) (n + 1)
    rw [sN1, ch_big n (n + 1) (by omega), Nat.zero_mul, ch_0, Nat.pow_zero] at h
    omega
/-- no divisor up to the root -/
def isP (p : Nat) : Prop := 2 ≤ p ∧ ∀ d, 2 ≤ d → d * d ≤ p → ¬ d ∣ p
theorem isP_dvd {p d : Nat} (h : isP p) (hd : d ∣ p) (h2 : 2 ≤ d) : d = p := by
  obtain ⟨e, he⟩ := hd
  by_cases h1 : d * d ≤ p
  · exact absurd ⟨e, he⟩ (h.2 d h2 h1)
  · have hlt : e < d := by
      refine Nat.lt_of_not_le fun q => h1 ?_
      rw [he]; exact Nat.mul_le_mul_left d q
    have he1 : e ≤ 1 := by
      refine Nat.le_of_not_lt fun q => h.2 e q ?_ ⟨d, by rw [he, Nat.mul_comm]⟩
      rw [he]; exact Nat.mul_le_mul_right e (by omega)
    have he0 : e ≠ 0 := fun q => by rw [q, Nat.mul_zero] at he; have := h.1; omega
    have : e = 1 := by omega
    rw [he, this, Nat.mul_one]
theorem isP_co {p k : Nat} (h : isP p) (h0 : 0 < k) (hk : k < p) : Nat.Coprime p k := by
  refine Classical.byContradiction fun q => ?_
  have hg : Nat.gcd p k ≠ 1 := q
  have h1 := Nat.gcd_dvd_left p k
  have h2 := Nat.gcd_dvd_right p k
  have h3 := Nat.le_of_dvd h0 h2
  have h4 : Nat.gcd p k ≠ 0 := fun z => by have := Nat.eq_zero_of_gcd_eq_zero_left z; have := h.1; omega
  have := isP_dvd h h1 (by omega)
  omega
theorem isP_ch {p k : Nat} (h : isP p) (h0 : 0 < k) (hk : k < p) : p ∣ ch p k := by
  obtain ⟨j, rfl⟩ : ∃ j, k = j + 1 := ⟨k - 1, by omega⟩
  obtain ⟨n, rfl⟩ : ∃ n, p = n + 1 := ⟨p - 1, by omega⟩
  have h1 := ch_mul n j
  exact (isP_co h h0 hk).dvd_of_dvd_mul_left ⟨ch n j, h1⟩
theorem sN1_dvd {p : Nat} {f : Nat → Nat} : ∀ {n : Nat}, (∀ k, k < n → p ∣ f k) → p ∣ sN1 f n
  | 0, _ => ⟨0, rfl⟩
  | n + 1, h => Nat.dvd_add (sN1_dvd fun k hk => h k (by omega)) (h n (by omega))
theorem fermat {p : Nat} (h : isP p) : ∀ x : Nat, x ^ p % p = x % p
  | 0 => by rw [Nat.zero_pow (by have := h.1; omega)]
  | x + 1 => by
    have ih := fermat h x
    obtain ⟨n, rfl⟩ : ∃ n, p = n + 1 := ⟨p - 1, by have := h.1; omega⟩
    have hd : (n + 1) ∣ sN1 (fun k => ch (n + 1) (k + 1) * x ^ (k + 1)) n := sN1_dvd fun k hk => Nat.dvd_trans (isP_ch h (by omega) (by omega)) (Nat.dvd_mul_right _ _)
    obtain ⟨q, hq⟩ := hd
    rw [binom x (n + 1), sN1, sN1_head _ n, ch_nn, ch_0, Nat.pow_zero, hq, show 1 * 1 + (n + 1) * q + 1 * x ^ (n + 1) = (x ^ (n + 1) + 1) + (n + 1) * q by omega, Nat.add_mul_mod_self_left, Nat.add_mod, ih, ← Nat.add_mod]
/-- with the power below it is 1 -/
theorem fermat1 {p x : Nat} (h : isP p) (h0 : 0 < x) (hx : x < p) : x ^ (p - 1) % p = 1 := by
  have h1 := fermat h x
  have h2 := h.1
  have e : x ^ p = x * x ^ (p - 1) := by rw [Nat.mul_comm, ← Nat.pow_succ, show Nat.succ (p - 1) = p by omega]
  have hpos : 1 ≤ x ^ (p - 1) := Nat.pow_pos h0
  have h3 : p ∣ x * (x ^ (p - 1) - 1) := by
    rw [Nat.mul_sub, Nat.mul_one, ← e]
    exact Nat.dvd_of_mod_eq_zero (Nat.sub_mod_eq_zero_of_mod_eq h1)
  have h4 := (isP_co h h0 hx).dvd_of_dvd_mul_left h3
  obtain ⟨q, hq⟩ := h4
  have h5 : x ^ (p - 1) = 1 + p * q := by omega
  rw [h5, Nat.add_mul_mod_self_left, Nat.mod_eq_of_lt (by omega)]
theorem pw_eq {p : Int} (hp : 0 < p) : ∀ (f e : Nat) (r s : Int), e < 2 ^ f → 0 ≤ r ∧ r < p → pw p r s f e = r * s ^ e % p := by
  intro f
  induction f with
  | zero =>
    intro e r s he hr
    have : e = 0 := by rw [Nat.pow_zero] at he; omega
    subst this
    rw [pw, Int.pow_zero, Int.mul_one, Int.emod_eq_of_lt hr.1 hr.2]
  | succ f ih =>
    intro e r s he hr
    cases e with
    | zero => rw [pw, Int.pow_zero, Int.mul_one, Int.emod_eq_of_lt hr.1 hr.2]
    | succ e =>
      have hpw : (2 : Nat) ^ (f + 1) = 2 * 2 ^ f := by rw [Nat.pow_succ, Nat.mul_comm]
      have sq : ∀ j : Nat, (s * s % p) ^ j % p = (s * s) ^ j % p := by
        intro j
        induction j with
        | zero => rw [Int.pow_zero, Int.pow_zero]
        | succ j ihj => rw [Int.pow_succ, Int.pow_succ, Int.mul_emod, ihj, Int.emod_emod, ← Int.mul_emod]
      have dbl : ∀ j : Nat, (s * s) ^ j = s ^ (2 * j) := by
        intro j
        induction j with
        | zero => rw [Int.pow_zero, Nat.mul_zero, Int.pow_zero]
        | succ j ihj => rw [Int.pow_succ, ihj, show 2 * (j + 1) = 2 * j + 1 + 1 by omega, Int.pow_succ, Int.pow_succ, Int.mul_assoc]
      have ep : pw p r s (f + 1) (e + 1) = pw p (if (e + 1) % 2 = 1 then r * s % p else r) (s * s % p) f ((e + 1) / 2) := rfl
      rw [ep]
      by_cases h : (e + 1) % 2 = 1
      · rw [if_pos h, ih _ _ _ (by omega) ⟨Int.emod_nonneg _ (by omega), Int.emod_lt_of_pos _ hp⟩, Int.mul_emod, Int.emod_emod, sq, dbl, ← Int.mul_emod, Int.mul_assoc, Int.mul_comm s, ← Int.pow_succ, show Nat.succ (2 * ((e + 1) / 2)) = e + 1 by omega]
      · rw [if_neg h, ih _ _ _ (by omega) hr, Int.mul_emod, sq, dbl, ← Int.mul_emod, show 2 * ((e + 1) / 2) = e + 1 by omega]
/-- the inverse is one -/
theorem inv_ok {p : Nat} {x : Int} (h : isP p) (hp2 : p < 40000) (hx : 0 < x ∧ x < (p : Int)) : (p : Int) ∣ inv (p : Int) x * x - 1 := by
  have h2 := h.1
  obtain ⟨y, rfl⟩ : ∃ y : Nat, x = (y : Int) := ⟨x.toNat, by omega⟩
  unfold inv
  rw [pw_eq (by omega) 16 _ _ _ (by have : (2 : Nat) ^ 16 = 65536 := rfl; omega) ⟨by omega, by omega⟩, Int.one_mul]
  have e : (y : Int) ^ ((p : Int) - 2).toNat * (y : Int) = ((y ^ (p - 1) : Nat) : Int) := by
    rw [← Int.pow_succ, show Nat.succ ((p : Int) - 2).toNat = p - 1 by omega, Int.natCast_pow]
  have f := fermat1 (x := y) h (by omega) (by omega)
  refine emq.mp ?_
  rw [Int.mul_emod, Int.emod_emod, ← Int.mul_emod, e]
  have e2 : ((y ^ (p - 1) : Nat) : Int) % (p : Int) = ((y ^ (p - 1) % p : Nat) : Int) := (Int.natCast_emod _ _).symm
  rw [e2, f, Int.emod_eq_of_lt (by omega) (by omega)]
  rfl

