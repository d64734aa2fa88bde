/-! ===== X4: numbers modulo p ===== -/
theorem u_n {α : Type} {I I' : Nat → Nat → α} {a b k : Nat} {v : α} (e : I' = up2 I a k v) (h : b ≠ a) : I' b = I b := by rw [e, up2_n h]
theorem u_s {α : Type} {I I' : Nat → Nat → α} {a k : Nat} {v : α} (e : I' = up2 I a k v) : I' a k = v := by rw [e, up2_ss]
theorem u_o {α : Type} {I I' : Nat → Nat → α} {a k j : Nat} {v : α} (e : I' = up2 I a k v) (h : j ≠ k) : I' a j = I a j := by rw [e, up2_sn h]
/-- the numbers' object -/
def NumS (S : Sh) (I : MI) (a : Nat) (p : Int) : Prop := sT S a = 4 ∧ I a 0 = p ∧ 2 ≤ p ∧ p ≤ 32749
theorem mul_lt {x y p : Int} (hx : 0 ≤ x ∧ x < p) (hy : 0 ≤ y ∧ y < p) (hp : p ≤ 32749) : 0 ≤ x * y ∧ x * y ≤ 1072431504 := by
  refine ⟨Int.mul_nonneg hx.1 hy.1, ?_⟩
  have h1 : x * y ≤ 32748 * y := Int.mul_le_mul_of_nonneg_right (by omega) hy.1
  omega
section N4
variable {G : Gl} {S : Sh} {I : MI} {R : MR} {a : Nat} {p x y z : Int}
theorem p4t (h : NumS S I a p) : pX4_times S I a x y := ⟨h.1, by rw [h.2.1]; have := h.2.2; omega, trivial⟩
theorem p4pt (h : NumS S I a p) : pX4_plusTimes S I a x y z := ⟨h.1, by rw [h.2.1]; have := h.2.2; omega, trivial⟩
theorem p4r (h : NumS S I a p) : pX4_reduced S I a x := ⟨h.1, by rw [h.2.1]; have := h.2.2; omega, trivial⟩
theorem p4n (h : NumS S I a p) : pX4_negative S a x := by
  exact ⟨fun _ => ⟨h.1, trivial⟩, fun _ => trivial⟩
theorem v4t' (h : NumS S I a p) (hx : 0 ≤ x ∧ x < 32749) (hy : 0 ≤ y ∧ y < 32749) : vX4_times I a x y = x * y % p := by
  obtain ⟨-, h1, h2, h3⟩ := h
  have := mul_lt hx hy (Int.le_refl _)
  unfold vX4_times
  rw [h1, w32_id (by omega), irem_eq (by omega) (by omega) (by omega) (by omega)]
theorem v4t (h : NumS S I a p) (hx : 0 ≤ x ∧ x < p) (hy : 0 ≤ y ∧ y < p) : vX4_times I a x y = x * y % p := v4t' h (by have := h.2.2; omega) (by have := h.2.2; omega)
theorem v4pt (h : NumS S I a p) (hx : 0 ≤ x ∧ x < p) (hy : 0 ≤ y ∧ y < p) (hz : 0 ≤ z ∧ z < p) : vX4_plusTimes I a x y z = (x + y * z) % p := by
  obtain ⟨-, h1, h2, h3⟩ := h
  have := mul_lt hy hz h3
  unfold vX4_plusTimes
  rw [h1, w32_id (x := y * z) (by omega), w32_id (by omega), irem_eq (by omega) (by omega) (by omega) (by omega)]
theorem v4r (h : NumS S I a p) (hx : 0 ≤ x) (hx2 : x < 2147483648) : vX4_reduced I a x = x % p := by
  obtain ⟨-, h1, h2, h3⟩ := h
  unfold vX4_reduced
  rw [h1, irem_eq hx hx2 (by omega) (by omega)]
theorem v4n (h : NumS S I a p) (hx : 0 ≤ x ∧ x < p) : vX4_negative I a x = if x = 0 then 0 else p - x := by
  obtain ⟨-, h1, h2, h3⟩ := h
  unfold vX4_negative
  rw [h1, w32_id (by omega)]
  by_cases e : x = 0
  · rw [if_neg (by omega), if_pos e]
  · rw [if_pos e, if_neg e]
end N4
/-- a power, by squares -/
def pw (p : Int) (r s : Int) : Nat → Nat → Int
  | 0, _ => r
  | _ + 1, 0 => r
  | f + 1, e => pw p (if e % 2 = 1 then r * s % p else r) (s * s % p) f (e / 2)
theorem inv_loop {G : Gl} {S : Sh} {I : MI} {R : MR} {Q : Sh → MI → MR → Int → Prop} {a : Nat} {p : Int} (h : NumS S I a p) : ∀ (f e : Nat) (r s : Int), e < 2 ^ f → e < 40000 → 0 ≤ r ∧ r < p → 0 ≤ s ∧ s < p → Q S I R (pw p r s f e) → LX4_inverse_12 G a r s (e : Int) S I R Q := by
  intro f
  induction f with
  | zero =>
    intro e r s he h4 hr hs hq
    have : e = 0 := by omega
    subst this
    exact bX4_inverse_12 (br_t (by omega) hq)
  | succ f ih =>
    intro e r s he h4 hr hs hq
    by_cases e0 : e = 0
    · subst e0
      exact bX4_inverse_12 (br_t (by omega) hq)
    · refine bX4_inverse_12 (br_f (by omega) ?_)
      rw [iand_1 (by unfold InR; omega)]
      have hp0 : 0 < p := by have := h.2.2; omega
      have hmr : 0 ≤ r * s % p ∧ r * s % p < p := ⟨Int.emod_nonneg _ (by omega), Int.emod_lt_of_pos _ hp0⟩
      have hms : 0 ≤ s * s % p ∧ s * s % p < p := ⟨Int.emod_nonneg _ (by omega), Int.emod_lt_of_pos _ hp0⟩
      have hsh : ishr (e : Int) 1 = ((e / 2 : Nat) : Int) := by
        rw [ishr_eq (by unfold InR; omega) (by decide) (by decide)]
        show (e : Int) / 2 = _
        omega
      have hpw : pw p r s (f + 1) e = pw p (if e % 2 = 1 then r * s % p else r) (s * s % p) f (e / 2) := by
        cases e with
        | zero => exact absurd rfl e0
        | succ e => rfl
      rw [hpw] at hq
      by_cases e1 : e % 2 = 1
      · refine br_f (by omega) ⟨h.1, p4t h, ?_⟩
        rw [v4t h hr hs]
        refine bX4_inverse_32 ⟨h.1, p4t h, ?_⟩
        rw [v4t h hs hs, hsh]
        rw [if_pos e1] at hq
        exact ih (e / 2) _ _ (by rw [Nat.pow_succ] at he; omega) (by omega) hmr hms hq
      · refine br_t (by omega) ?_
        refine bX4_inverse_32 ⟨h.1, p4t h, ?_⟩
        rw [v4t h hs hs, hsh]
        rw [if_neg e1] at hq
        exact ih (e / 2) _ _ (by rw [Nat.pow_succ] at he; omega) (by omega) hr hms hq
/-- by which a number is turned -/
def inv (p x : Int) : Int := pw p 1 x 16 (p - 2).toNat
theorem inv_spec {G : Gl} {S : Sh} {I : MI} {R : MR} {Q : Sh → MI → MR → Int → Prop} {a : Nat} {p x : Int} (h : NumS S I a p) (hx : 0 ≤ x ∧ x < p) (hq : Q S I R (inv p x)) : CI G MX4_inverse [vR a, vI x] S I R Q := by
  refine bX4_inverse ⟨h.1, ?_⟩
  obtain ⟨-, h1, h2, h3⟩ := id h
  rw [h1, w32_id (by omega)]
  have : p - 2 = (((p - 2).toNat : Nat) : Int) := by omega
  rw [this]
  exact inv_loop h 16 _ 1 x (by show _ < 65536; omega) (by omega) ⟨by omega, by omega⟩ hx hq
theorem pw_r {p : Int} (hp : 0 < p) : ∀ (f e : Nat) (r s : Int), 0 ≤ r ∧ r < p → 0 ≤ pw p r s f e ∧ pw p r s f e < p
  | 0, _, _, _, h => h
  | f + 1, 0, _, _, h => h
  | f + 1, e + 1, r, s, h => by
    show 0 ≤ pw p (if (e + 1) % 2 = 1 then r * s % p else r) (s * s % p) f ((e + 1) / 2) ∧ _
    refine pw_r hp f _ _ _ ?_
    split
    · exact ⟨Int.emod_nonneg _ (by omega), Int.emod_lt_of_pos _ hp⟩
    · exact h
theorem inv_r {p x : Int} (hp : 2 ≤ p) : 0 ≤ inv p x ∧ inv p x < p := pw_r (by omega) _ _ _ _ ⟨by omega, by omega⟩

