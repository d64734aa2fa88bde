/-! ===== the monomials below a degree, by order ===== -/
def zl (w : Nat → Int) (d x y : Int) : Nat → List Int
  | 0 => []
  | k + 1 => (if x * w 0 + y * w 1 + (k : Int) * w 2 = d then [key w x y k] else []) ++ zl w d x y k
def yl (w : Nat → Int) (d x : Int) (zb : Nat) : Nat → List Int
  | 0 => []
  | k + 1 => zl w d x k (zb + 1) ++ yl w d x zb k
def xl (w : Nat → Int) (d : Int) (yb zb : Nat) : Nat → List Int
  | 0 => []
  | k + 1 => yl w d k zb (yb + 1) ++ xl w d yb zb k
def nyb (n : Int) (d : Nat) : Nat := if 1 < n then d else 0
def nzb (n : Int) (d : Nat) : Nat := if 2 < n then d else 0
def mdeg (n : Int) (w : Nat → Int) (d : Nat) : List Int := xl w d (nyb n d) (nzb n d) (d + 1)
/-- all of degree below D, by order -/
def ml (n : Int) (w : Nat → Int) : Nat → List Int
  | 0 => []
  | D + 1 => ml n w D ++ mdeg n w D
theorem mem_zl {w : Nat → Int} {d x y m : Int} : ∀ {k : Nat}, m ∈ zl w d x y k ↔ ∃ z : Nat, z < k ∧ x * w 0 + y * w 1 + (z : Int) * w 2 = d ∧ m = key w x y z
  | 0 => by simp [zl]
  | k + 1 => by
    rw [zl, List.mem_append, mem_zl]
    constructor
    · rintro (h | ⟨z, h1, h2⟩)
      · split at h
        · rename_i hc
          exact ⟨k, by omega, hc, List.mem_singleton.mp h⟩
        · cases h
      · exact ⟨z, by omega, h2⟩
    · rintro ⟨z, h1, h2, h3⟩
      by_cases hz : z = k
      · subst hz
        left
        rw [if_pos h2, h3]
        exact List.mem_singleton_self _
      · exact Or.inr ⟨z, by omega, h2, h3⟩
theorem mem_yl {w : Nat → Int} {d x m : Int} {zb : Nat} : ∀ {k : Nat}, m ∈ yl w d x zb k ↔ ∃ y : Nat, y < k ∧ m ∈ zl w d x y (zb + 1)
  | 0 => by simp [yl]
  | k + 1 => by
    rw [yl, List.mem_append, mem_yl]
    constructor
    · rintro (h | ⟨y, h1, h2⟩)
      · exact ⟨k, by omega, h⟩
      · exact ⟨y, by omega, h2⟩
    · rintro ⟨y, h1, h2⟩
      by_cases hy : y = k
      · subst hy; exact Or.inl h2
      · exact Or.inr ⟨y, by omega, h2⟩
theorem mem_xl {w : Nat → Int} {d m : Int} {yb zb : Nat} : ∀ {k : Nat}, m ∈ xl w d yb zb k ↔ ∃ x : Nat, x < k ∧ m ∈ yl w d x zb (yb + 1)
  | 0 => by simp [xl]
  | k + 1 => by
    rw [xl, List.mem_append, mem_xl]
    constructor
    · rintro (h | ⟨x, h1, h2⟩)
      · exact ⟨k, by omega, h⟩
      · exact ⟨x, by omega, h2⟩
    · rintro ⟨x, h1, h2⟩
      by_cases hx : x = k
      · subst hx; exact Or.inl h2
      · exact Or.inr ⟨x, by omega, h2⟩
theorem mem_mdeg {n : Int} {w : Nat → Int} {d : Nat} {m : Int} : m ∈ mdeg n w d ↔ ∃ x y z : Nat, x ≤ d ∧ y ≤ nyb n d ∧ z ≤ nzb n d ∧ (x : Int) * w 0 + (y : Int) * w 1 + (z : Int) * w 2 = d ∧ m = key w x y z := by
  unfold mdeg
  rw [mem_xl]
  constructor
  · rintro ⟨x, h1, h2⟩
    obtain ⟨y, h3, h4⟩ := mem_yl.mp h2
    obtain ⟨z, h5, h6, h7⟩ := mem_zl.mp h4
    exact ⟨x, y, z, by omega, by omega, by omega, h6, h7⟩
  · rintro ⟨x, y, z, h1, h2, h3, h4, h5⟩
    exact ⟨x, by omega, mem_yl.mpr ⟨y, by omega, mem_zl.mpr ⟨z, by omega, h4, h5⟩⟩⟩
theorem nb_le (n : Int) (d : Nat) : nyb n d ≤ d ∧ nzb n d ≤ d := by
  unfold nyb nzb
  constructor
  · split <;> omega
  · split <;> omega
theorem key_at {w : Nat → Int} {d x y z : Int} (h : x * w 0 + y * w 1 + z * w 2 = d) : key w x y z = d * 262144 + 262143 - (4096 * x + 64 * y + z) := by
  unfold key pk; rw [h]
def Inc (L : List Int) : Prop := L.Pairwise (fun a b => a < b)
theorem inc_app {L M : List Int} (h1 : Inc L) (h2 : Inc M) (h : ∀ a ∈ L, ∀ b ∈ M, a < b) : Inc (L ++ M) := List.pairwise_append.mpr ⟨h1, h2, h⟩
theorem zl_inc {w : Nat → Int} {d x y : Int} : ∀ k : Nat, Inc (zl w d x y k)
  | 0 => List.Pairwise.nil
  | k + 1 => by
    rw [zl]
    refine inc_app ?_ (zl_inc k) (fun a ha b hb => ?_)
    · split
      · exact List.pairwise_singleton _ _
      · exact List.Pairwise.nil
    · split at ha
      · rename_i hc
        obtain ⟨z, h1, h2, h3⟩ := mem_zl.mp hb
        rw [List.mem_singleton.mp ha, h3, key_at hc, key_at h2]
        omega
      · cases ha
theorem yl_inc {w : Nat → Int} {d x : Int} {zb : Nat} (hz : zb < 64) : ∀ k : Nat, Inc (yl w d x zb k)
  | 0 => List.Pairwise.nil
  | k + 1 => by
    rw [yl]
    refine inc_app (zl_inc _) (yl_inc hz k) (fun a ha b hb => ?_)
    obtain ⟨z, h1, h2, h3⟩ := mem_zl.mp ha
    obtain ⟨y, h4, h5⟩ := mem_yl.mp hb
    obtain ⟨z2, h6, h7, h8⟩ := mem_zl.mp h5
    rw [h3, h8, key_at h2, key_at h7]
    omega
theorem xl_inc {w : Nat → Int} {d : Int} {yb zb : Nat} (hy : yb < 63) (hz : zb < 64) : ∀ k : Nat, Inc (xl w d yb zb k)
  | 0 => List.Pairwise.nil
  | k + 1 => by
    rw [xl]
    refine inc_app (yl_inc hz _) (xl_inc hy hz k) (fun a ha b hb => ?_)
    obtain ⟨y, h4, h5⟩ := mem_yl.mp ha
    obtain ⟨z, h1, h2, h3⟩ := mem_zl.mp h5
    obtain ⟨x, g1, g2⟩ := mem_xl.mp hb
    obtain ⟨y2, h6, h7⟩ := mem_yl.mp g2
    obtain ⟨z2, g6, g7, g8⟩ := mem_zl.mp h7
    rw [h3, g8, key_at h2, key_at g7]
    omega
theorem mdeg_inc {n : Int} {w : Nat → Int} {d : Nat} (hd : d < 60) : Inc (mdeg n w d) := by
  have := nb_le n d
  exact xl_inc (by omega) (by omega) _
/-- what is among them -/
theorem mem_ml {n : Int} {w : Nat → Int} {m : Int} : ∀ {D : Nat}, m ∈ ml n w D ↔ ∃ d, d < D ∧ m ∈ mdeg n w d
  | 0 => by simp [ml]
  | D + 1 => by
    rw [ml, List.mem_append, mem_ml]
    constructor
    · rintro (⟨d, h1, h2⟩ | h)
      · exact ⟨d, by omega, h2⟩
      · exact ⟨D, by omega, h⟩
    · rintro ⟨d, h1, h2⟩
      by_cases hd : d = D
      · subst hd; exact Or.inr h2
      · exact Or.inl ⟨d, by omega, h2⟩
theorem mdeg_r {n : Int} {w : Nat → Int} {d : Nat} {m : Int} (hd : d < 60) (h : m ∈ mdeg n w d) : gk w m ∧ dg m = d ∧ exx m ≤ d ∧ exy m ≤ d ∧ exz m ≤ d ∧ (n ≤ 1 → exy m = 0) ∧ (n ≤ 2 → exz m = 0) ∧ (d : Int) * 262144 ≤ m ∧ m < (d : Int) * 262144 + 262144 := by
  obtain ⟨x, y, z, h1, h2, h3, h4, rfl⟩ := mem_mdeg.mp h
  have hb := nb_le n d
  have e := key_at h4
  refine ⟨gk_key (by omega) (by omega) (by omega), ?_, ?_, ?_, ?_, fun hn => ?_, fun hn => ?_, ?_, ?_⟩
  · unfold key; rw [dg_pk (by omega) (by omega) (by omega), h4]
  · unfold key; rw [exx_pk (by omega) (by omega) (by omega)]; omega
  · unfold key; rw [exy_pk (by omega) (by omega) (by omega)]; omega
  · unfold key; rw [exz_pk (by omega) (by omega) (by omega)]; omega
  · unfold key; rw [exy_pk (by omega) (by omega) (by omega)]
    have : nyb n d = 0 := if_neg (by omega)
    omega
  · unfold key; rw [exz_pk (by omega) (by omega) (by omega)]
    have : nzb n d = 0 := if_neg (by omega)
    omega
  · rw [e]; omega
  · rw [e]; omega
theorem ml_inc {n : Int} {w : Nat → Int} : ∀ {D : Nat}, D < 60 → Inc (ml n w D)
  | 0, _ => List.Pairwise.nil
  | D + 1, h => by
    rw [ml]
    refine inc_app (ml_inc (by omega)) (mdeg_inc (by omega)) (fun a ha b hb => ?_)
    obtain ⟨d, h1, h2⟩ := mem_ml.mp ha
    have e1 := mdeg_r (by omega) h2
    have e2 := mdeg_r (by omega) hb
    omega
/-- a monomial of the ring of degree d is told among those of degree d -/
theorem mdeg_all {n : Int} {w : Nat → Int} {m : Int} {d : Nat} (hw : wtOK w) (hg : gk w m) (hd : dg m = d) (h1 : n ≤ 1 → exy m = 0) (h2 : n ≤ 2 → exz m = 0) : m ∈ mdeg n w d := by
  have hr := ex_r m
  have w0 := hw 0 (by omega)
  have w1 := hw 1 (by omega)
  have w2 := hw 2 (by omega)
  have hs : exx m * w 0 + exy m * w 1 + exz m * w 2 = d := by unfold gk dgw at hg; omega
  have m1 : ∀ {a c : Int}, 0 ≤ a → 1 ≤ c → a ≤ a * c ∧ 0 ≤ a * c := fun {a c} ha hc => by
    have := Int.mul_le_mul_of_nonneg_left hc ha
    omega
  have a0 := m1 hr.1 w0.1
  have a1 := m1 hr.2.2.1 w1.1
  have a2 := m1 hr.2.2.2.2.1 w2.1
  refine mem_mdeg.mpr ⟨(exx m).toNat, (exy m).toNat, (exz m).toNat, by omega, ?_, ?_, ?_, ?_⟩
  · unfold nyb
    by_cases hn : 1 < n
    · rw [if_pos hn]; omega
    · rw [if_neg hn, h1 (by omega)]; decide
  · unfold nzb
    by_cases hn : 2 < n
    · rw [if_pos hn]; omega
    · rw [if_neg hn, h2 (by omega)]; decide
  · rw [show (((exx m).toNat : Nat) : Int) = exx m by omega, show (((exy m).toNat : Nat) : Int) = exy m by omega, show (((exz m).toNat : Nat) : Int) = exz m by omega]
    exact hs
  · rw [show (((exx m).toNat : Nat) : Int) = exx m by omega, show (((exy m).toNat : Nat) : Int) = exy m by omega, show (((exz m).toNat : Nat) : Int) = exz m by omega]
    exact key_gk hg
/-- fewer degrees, a beginning -/
theorem ml_pre {n : Int} {w : Nat → Int} {D : Nat} : ∀ {E : Nat}, D ≤ E → ∃ M, ml n w E = ml n w D ++ M
  | 0, h => ⟨[], by rw [show D = 0 by omega]; rfl⟩
  | E + 1, h => by
    by_cases e : D = E + 1
    · exact ⟨[], by rw [e, List.append_nil]⟩
    · obtain ⟨M, hM⟩ := ml_pre (n := n) (w := w) (D := D) (E := E) (by omega)
      exact ⟨M ++ mdeg n w E, by rw [ml, hM, List.append_assoc]⟩
-- how many there are, whatever the weights
def cz (w0 w1 w2 d x y : Nat) : Nat → Nat
  | 0 => 0
  | k + 1 => (if x * w0 + y * w1 + k * w2 = d then 1 else 0) + cz w0 w1 w2 d x y k
def cy (w0 w1 w2 d x zb : Nat) : Nat → Nat
  | 0 => 0
  | k + 1 => cz w0 w1 w2 d x k (zb + 1) + cy w0 w1 w2 d x zb k
def cx (w0 w1 w2 d yb zb : Nat) : Nat → Nat
  | 0 => 0
  | k + 1 => cy w0 w1 w2 d k zb (yb + 1) + cx w0 w1 w2 d yb zb k
def cD (n w0 w1 w2 : Nat) : Nat → Nat
  | 0 => 0
  | D + 1 => cD n w0 w1 w2 D + cx w0 w1 w2 D (if 1 < n then D else 0) (if 2 < n then D else 0) (D + 1)
def cntOK : Bool := (List.range 3).all fun n => (List.range 4).all fun a => (List.range 4).all fun b => (List.range 4).all fun c =>
  let B := if n = 0 then 24 else if n = 1 then 12 else 8
  decide (cD (n + 1) (a + 1) (b + 1) (c + 1) B ≤ 120) && decide (cD (n + 1) (a + 1) (b + 1) (c + 1) (B + 1) ≤ 165)
theorem cnt_ok : cntOK = true := by decide +kernel

