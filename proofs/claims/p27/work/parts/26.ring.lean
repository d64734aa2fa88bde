/-! ===== X6: the ring's parts, monomials by weights ===== -/
/-- a ring's cells: where its arrays lie -/
def RingL (S : Sh) (R : MR) (r : Nat) : Prop := sT S r = 6 ∧ (R r 2 = r + 2 ∧ R r 3 = r + 3 ∧ R r 4 = r + 4 ∧ R r 5 = r + 5) ∧ (sT S (r + 2) = 21 ∧ sT S (r + 3) = 21 ∧ sT S (r + 4) = 21 ∧ sT S (r + 5) = 27) ∧ (sL S (r + 2) = 3 ∧ sL S (r + 3) = 165 ∧ sL S (r + 4) = 26 ∧ sL S (r + 5) = 3) ∧ ∀ i, i < 3 → R (r + 5) i = r + 6 + i ∧ sT S (r + 6 + i) = 21 ∧ sL S (r + 6 + i) = 120
def wtOK (w : Nat → Int) : Prop := ∀ i, i < 3 → 1 ≤ w i ∧ w i ≤ 4
/-- its number of variables and weights -/
def RingV (I : MI) (r : Nat) (n : Int) (w : Nat → Int) : Prop := I r 0 = n ∧ (1 ≤ n ∧ n ≤ 3) ∧ (∀ i, i < 3 → I (r + 2) i = w i) ∧ wtOK w
def key (w : Nat → Int) (x y z : Int) : Int := pk (x * w 0 + y * w 1 + z * w 2) x y z
/-- the key of a variable -/
def vkey (w : Nat → Int) (v : Int) : Int := key w (if v = 0 then 1 else 0) (if v = 1 then 1 else 0) (if v = 2 then 1 else 0)
def dgw (w : Nat → Int) (m : Int) : Int := exx m * w 0 + exy m * w 1 + exz m * w 2
/-- a key by these weights -/
def gk (w : Nat → Int) (m : Int) : Prop := dg m = dgw w m
theorem mul4 {x c : Int} (hx : 0 ≤ x ∧ x < 64) (hc : 1 ≤ c ∧ c ≤ 4) : 0 ≤ x * c ∧ x * c ≤ 252 := by
  have : c = 1 ∨ c = 2 ∨ c = 3 ∨ c = 4 := by omega
  rcases this with rfl | rfl | rfl | rfl <;> omega
theorem key_d {w : Nat → Int} {x y z : Int} (hw : wtOK w) (hx : 0 ≤ x ∧ x < 64) (hy : 0 ≤ y ∧ y < 64) (hz : 0 ≤ z ∧ z < 64) : 0 ≤ x * w 0 + y * w 1 + z * w 2 ∧ x * w 0 + y * w 1 + z * w 2 ≤ 756 := by
  have h0 := mul4 hx (hw 0 (by omega))
  have h1 := mul4 hy (hw 1 (by omega))
  have h2 := mul4 hz (hw 2 (by omega))
  omega
theorem gk_key {w : Nat → Int} {x y z : Int} (hx : 0 ≤ x ∧ x < 64) (hy : 0 ≤ y ∧ y < 64) (hz : 0 ≤ z ∧ z < 64) : gk w (key w x y z) := by
  unfold gk dgw key
  rw [dg_pk hx hy hz, exx_pk hx hy hz, exy_pk hx hy hz, exz_pk hx hy hz]
theorem key_gk {w : Nat → Int} {m : Int} (h : gk w m) : m = key w (exx m) (exy m) (exz m) := by
  unfold key
  have := m_pk m
  unfold gk dgw at h
  rw [← h]; exact this
theorem okm_key {w : Nat → Int} {x y z : Int} (hw : wtOK w) (hx : 0 ≤ x ∧ x < 63) (hy : 0 ≤ y ∧ y < 63) (hz : 0 ≤ z ∧ z < 63) : okm (key w x y z) := by
  have h := key_d hw (x := x) (y := y) (z := z) (by omega) (by omega) (by omega)
  unfold okm key
  rw [exx_pk (by omega) (by omega) (by omega), exy_pk (by omega) (by omega) (by omega), exz_pk (by omega) (by omega) (by omega)]
  unfold pk
  omega
section R6
variable {G : Gl} {S : Sh} {I : MI} {R : MR} {r : Nat} {n x y z v : Int} {w : Nat → Int}
theorem p6bound (h : sT S r = 6) : pX6_bound S r := ⟨h, trivial⟩
def bd (n : Int) : Int := if n = 1 then 24 else if n = 2 then 12 else 8
theorem v6bound (hv : RingV I r n w) : vX6_bound I r = bd n := by
  unfold vX6_bound bd
  rw [hv.1]
  by_cases h1 : n = 1
  · rw [if_neg (by omega), if_pos h1]
  · rw [if_pos h1, if_neg h1]
    by_cases h2 : n = 2
    · rw [if_neg (by omega), if_pos h2]
    · rw [if_pos h2, if_neg h2]
theorem bd_r (n : Int) : 8 ≤ bd n ∧ bd n ≤ 24 := by
  unfold bd
  by_cases h1 : n = 1
  · rw [if_pos h1]; omega
  · rw [if_neg h1]
    by_cases h2 : n = 2
    · rw [if_pos h2]; omega
    · rw [if_neg h2]; omega
theorem p6width (h : RingL S R r) (hv : RingV I r n w) : pX6_width S I R r := by
  have hb := bd_r n
  refine ⟨h.1, p6bound h.1, ?_⟩
  rw [h.2.1.2.2.1, h.2.2.1.2.2.1, h.2.2.2.1.2.2.1, v6bound hv]
  exact ⟨rfl, ⟨by omega, by omega⟩, trivial⟩
theorem v6width (h : RingL S R r) (hv : RingV I r n w) : vX6_width I R r = I (r + 4) (bd n).toNat := by
  unfold vX6_width
  rw [h.2.1.2.2.1, v6bound hv]
theorem p6mono (h : RingL S R r) : pX6_mono S R r x y z := by
  refine ⟨h.1, ?_⟩
  rw [h.2.1.1, h.2.2.1.1, h.2.2.2.1.1]
  exact ⟨rfl, ⟨by omega, by omega⟩, ⟨by omega, by omega⟩, ⟨by omega, by omega⟩, trivial⟩
theorem v6mono (h : RingL S R r) (hv : RingV I r n w) (hx : 0 ≤ x ∧ x < 64) (hy : 0 ≤ y ∧ y < 64) (hz : 0 ≤ z ∧ z < 64) : vX6_mono I R r x y z = key w x y z := by
  obtain ⟨-, -, hw, ho⟩ := hv
  have h0 := mul4 hx (ho 0 (by omega))
  have h1 := mul4 hy (ho 1 (by omega))
  have h2 := mul4 hz (ho 2 (by omega))
  unfold vX6_mono
  rw [h.2.1.1, show Int.toNat 0 = 0 from rfl, show Int.toNat 1 = 1 from rfl, show Int.toNat 2 = 2 from rfl, hw 0 (by omega), hw 1 (by omega), hw 2 (by omega),
    w32_id (x := x * w 0) (by omega), w32_id (x := y * w 1) (by omega), w32_id (x := z * w 2) (by omega), w32_id (x := x * w 0 + y * w 1) (by omega), w32_id (by omega), vof (by omega) hx hy hz]
  rfl
theorem p6var (h : RingL S R r) (hv : v = 0 ∨ v = 1 ∨ v = 2) : pX6_variable S R r v := by
  have key : ∀ x y z : Int, sT S r = 6 ∧ (pX6_mono S R r x y z ∧ True) := fun x y z => ⟨h.1, p6mono h, trivial⟩
  unfold pX6_variable
  exact ⟨fun _ => ⟨fun _ => ⟨fun _ => key _ _ _, fun _ => key _ _ _⟩, fun _ => ⟨fun _ => key _ _ _, fun _ => key _ _ _⟩⟩, fun _ => ⟨fun _ => ⟨fun _ => key _ _ _, fun _ => key _ _ _⟩, fun _ => ⟨fun _ => key _ _ _, fun _ => key _ _ _⟩⟩⟩
theorem v6var (h : RingL S R r) (hr : RingV I r n w) (hv : v = 0 ∨ v = 1 ∨ v = 2) : vX6_variable I R r v = vkey w v := by
  unfold vX6_variable vkey
  have n01 : ¬ ((0 : Int) = 1) := by decide
  have n02 : ¬ ((0 : Int) = 2) := by decide
  have n10 : ¬ ((1 : Int) = 0) := by decide
  have n12 : ¬ ((1 : Int) = 2) := by decide
  have n20 : ¬ ((2 : Int) = 0) := by decide
  have n21 : ¬ ((2 : Int) = 1) := by decide
  rcases hv with rfl | rfl | rfl
  · rw [if_neg (fun h => h rfl), if_pos n01, if_pos n02, v6mono h hr (by omega) (by omega) (by omega), if_pos rfl, if_neg n01, if_neg n02]
  · rw [if_pos n10, if_neg (fun h => h rfl), if_pos n12, v6mono h hr (by omega) (by omega) (by omega), if_neg n10, if_pos rfl, if_neg n12]
  · rw [if_pos n20, if_pos n21, if_neg (fun h => h rfl), v6mono h hr (by omega) (by omega) (by omega), if_neg n20, if_neg n21, if_pos rfl]
end R6

