/-! ===== X5: lowest terms, derivatives, a term more, zeros left out, a new order ===== -/
theorem tw_take {P : Tm → Bool} : ∀ {f : List Tm} {i : Nat}, (∀ t ∈ f.take i, P t = true) → (f.length ≤ i ∨ ∃ t, f[i]? = some t ∧ P t = false) → f.takeWhile P = f.take i
  | [], i, _, _ => by simp
  | a :: f, 0, _, h => by
    rcases h with h | ⟨t, ht, hp⟩
    · simp at h
    · cases Option.some.inj ht
      simp [List.takeWhile_cons, hp]
  | a :: f, i + 1, h, h2 => by
    have ha : P a = true := h a (by simp)
    rw [List.takeWhile_cons, List.take_succ_cons]
    simp only [ha, if_true]
    rw [tw_take (i := i) (fun t ht => h t (by simp [ht])) (by
      rcases h2 with h2 | ⟨t, ht, hp⟩
      · left; simp at h2; omega
      · right; exact ⟨t, by simpa using ht, hp⟩)]
theorem take_succ_get {α : Type} {f : List α} {i : Nat} (h : i < f.length) : f.take (i + 1) = f.take i ++ [f[i]] := by
  rw [List.take_add_one, List.getElem?_eq_getElem h]; rfl
def lowT (f : List Tm) : List Tm := f.takeWhile (fun t => decide (dg t.1 = lowL f))
section P52
variable {G : Gl} {S : Sh} {I : MI} {R : MR} {a b cap capb : Nat} {L f g : List Tm} {m c p : Int} {Q : Sh → MI → MR → Prop}
/-- a term's derivative -/
def derT (p : Int) (w : Nat → Int) (v : Int) (t : Tm) : Option Tm := if t.2 * ex t.1 v % p = 0 then none else some (t.1 - vkey w v + 262143, t.2 * ex t.1 v % p)
def derL (p : Int) (w : Nat → Int) (v : Int) (f : List Tm) : List Tm := f.filterMap (derT p w v)
theorem ex_lt (m v : Int) : 0 ≤ ex m v ∧ ex m v < 64 := by
  have := ex_r m
  unfold ex
  split
  · omega
  · split <;> omega
theorem der_ok {w : Nat → Int} {v m : Int} (hw : wtOK w) (hg : gk w m) (hh : ¬ hi m) (hv : v = 0 ∨ v = 1 ∨ v = 2) (h1 : ex m v ≠ 0) : okm (m - vkey w v + 262143) ∧ ¬ hi (m - vkey w v + 262143) ∧ gk w (m - vkey w v + 262143) ∧ 0 ≤ vkey w v ∧ vkey w v < 500000000 := by
  have hr := ex_r m
  have hk := key_gk hg
  unfold hi at hh
  have e : m - vkey w v + 262143 = key w (exx m - if v = 0 then 1 else 0) (exy m - if v = 1 then 1 else 0) (exz m - if v = 2 then 1 else 0) ∧ (0 ≤ vkey w v ∧ vkey w v < 500000000) := by
    have hw0 := hw 0 (by omega)
    have hw1 := hw 1 (by omega)
    have hw2 := hw 2 (by omega)
    have n01 : ¬ ((0 : Int) = 1) := by decide
    have n02 : ¬ ((0 : Int) = 2) := by decide
    have n10 : ¬ ((1 : Int) = 0) := by decide
    have n12 : ¬ ((1 : Int) = 2) := by decide
    have n20 : ¬ ((2 : Int) = 0) := by decide
    have n21 : ¬ ((2 : Int) = 1) := by decide
    unfold key pk at hk
    rcases hv with rfl | rfl | rfl
    · unfold vkey key pk
      rw [if_pos rfl, if_neg n01, if_neg n02]
      simp only [Int.sub_mul, Int.one_mul, Int.zero_mul, Int.sub_zero, Int.mul_zero, Int.add_zero, Int.zero_add]
      omega
    · unfold vkey key pk
      rw [if_neg n10, if_pos rfl, if_neg n12]
      simp only [Int.sub_mul, Int.one_mul, Int.zero_mul, Int.sub_zero, Int.mul_zero, Int.add_zero, Int.zero_add]
      omega
    · unfold vkey key pk
      rw [if_neg n20, if_neg n21, if_pos rfl]
      simp only [Int.sub_mul, Int.one_mul, Int.zero_mul, Int.sub_zero, Int.mul_zero, Int.add_zero, Int.zero_add]
      omega
  have hx : 0 ≤ (exx m - if v = 0 then 1 else 0) ∧ (exx m - if v = 0 then 1 else 0) ≤ 30 ∧ 0 ≤ (exy m - if v = 1 then 1 else 0) ∧ (exy m - if v = 1 then 1 else 0) ≤ 30 ∧ 0 ≤ (exz m - if v = 2 then 1 else 0) ∧ (exz m - if v = 2 then 1 else 0) ≤ 30 := by
    unfold ex at h1
    rcases hv with rfl | rfl | rfl
    · simp at h1 ⊢; omega
    · simp at h1 ⊢; omega
    · simp at h1 ⊢; omega
  rw [e.1]
  refine ⟨okm_key hw (by omega) (by omega) (by omega), ?_, gk_key (by omega) (by omega) (by omega), e.2⟩
  unfold hi key
  rw [exx_pk (by omega) (by omega) (by omega), exy_pk (by omega) (by omega) (by omega), exz_pk (by omega) (by omega) (by omega)]
  omega
end P52

