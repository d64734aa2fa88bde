/-! ===== X2: products of rows ===== -/
def lpV (M : List Int) (m : Int) (x : Vc) (j c : Nat) : Int := if c < M.length ∧ M.getD c 0 - m + 262143 ∈ M ∧ M.idxOf (M.getD c 0 - m + 262143) < j then x (M.idxOf (M.getD c 0 - m + 262143)) else 0
theorem lpV_all {M : List Int} {m : Int} {x : Vc} {c : Nat} (hc : c < M.length) : lpV M m x M.length c = mulv M m x c := by
  unfold lpV mulv ext
  by_cases h : M.getD c 0 - m + 262143 ∈ M
  · rw [if_pos ⟨hc, h, List.idxOf_lt_length_of_mem h⟩, if_pos h]
  · rw [if_neg (fun q => h q.2.1), if_neg h]
theorem idx_get {M : List Int} (h : Inc M) {c : Nat} (hc : c < M.length) : M.idxOf (M.getD c 0) = c :=
  inc_eq h (List.idxOf_lt_length_of_mem (getDl_mem hc)) hc (idx_at (getDl_mem hc))
theorem lpV_s {M : List Int} {m : Int} {x : Vc} {j c : Nat} (hi : Inc M) (hj : j < M.length) : lpV M m x (j + 1) c = if c < M.length ∧ M.getD c 0 = M.getD j 0 + m - 262143 then x j else lpV M m x j c := by
  unfold lpV
  by_cases h : c < M.length ∧ M.getD c 0 = M.getD j 0 + m - 262143
  · have e : M.getD c 0 - m + 262143 = M.getD j 0 := by omega
    rw [if_pos h, e, idx_get hi hj, if_pos ⟨h.1, getDl_mem hj, by omega⟩]
  · rw [if_neg h]
    by_cases h2 : c < M.length ∧ M.getD c 0 - m + 262143 ∈ M ∧ M.idxOf (M.getD c 0 - m + 262143) < j
    · rw [if_pos h2, if_pos ⟨h2.1, h2.2.1, by omega⟩]
    · rw [if_neg h2, if_neg (fun q => ?_)]
      have e : M.idxOf (M.getD c 0 - m + 262143) = j := by
        have := q.2.2
        have h3 : ¬ M.idxOf (M.getD c 0 - m + 262143) < j := fun z => h2 ⟨q.1, q.2.1, z⟩
        omega
      have e2 := idx_at q.2.1
      rw [e] at e2
      exact h ⟨q.1, by omega⟩
section R2b
variable {G : Gl} {S : Sh} {R : MR} {i r nu : Nat} {p n : Int} {w : Nat → Int} {Q : Sh → MI → MR → Prop}
theorem loadProduct_spec {I : MI} {rc nc : Nat} {m : Int} {M : List Int} (h : IdS S R i) (h1 : sT S rc = 21 ∧ sL S rc = 120) (h2 : sT S nc = 21 ∧ sL S nc = 120) (hrc : rc ≠ i + 123) (hnc : nc ≠ i + 123) (hi : Inc M) (hl : M.length ≤ 120)
    (hn : ∀ (c : Nat) k, M[c]? = some k → colP M (k + m - 262143) (I nc c))
    (hq : ∀ I', off1 I I' (i + 123) → (∀ c, c < M.length → I' (i + 123) c = mulv M m (I rc) c) → Q S I' R) : CV G MX2_loadProduct [vR i, vR rc, vR nc, vI (M.length : Int)] S I R Q := by
  have loop : ∀ (k j : Nat) (I1 : MI), M.length - j = k → j ≤ M.length → off1 I I1 (i + 123) → (∀ c, c < 120 → I1 (i + 123) c = lpV M m (I rc) j c) → LX2_loadProduct_11 G i rc nc (M.length : Int) (j : Int) S I1 R Q := by
    intro k
    induction k with
    | zero =>
      intro j I1 hk hj ho hx
      refine bX2_loadProduct_11 (br_t (by omega) (hq I1 ho (fun c hc => ?_)))
      rw [hx c (by omega), show j = M.length by omega, lpV_all hc]
    | succ k ih =>
      intro j I1 hk hj ho hx
      have hjl : j < M.length := by omega
      have hs : M[j]? = some (M.getD j 0) := by rw [getDl hjl, List.getElem?_eq_getElem hjl]
      have hc := hn j _ hs
      refine bX2_loadProduct_11 (br_f (by omega) ?_)
      rw [h1.1, h1.2, h2.1, h2.2, show Int.toNat (j : Int) = j by omega, ho nc hnc, add1 (by omega)]
      refine ⟨by decide, br_f (by omega) ⟨by decide, br_f (by omega) ⟨rfl, ⟨by omega, by omega⟩, ?_⟩⟩⟩
      rcases hc with ⟨e, hnm⟩ | ⟨c0, hc0, e⟩
      · refine br_t (by omega) (ih (j + 1) I1 (by omega) (by omega) ho (fun c hc2 => ?_))
        rw [hx c hc2, lpV_s hi hjl, if_neg (fun q => hnm (by rw [← q.2]; exact getDl_mem q.1))]
      · have hc0l : c0 < M.length := (List.getElem?_eq_some_iff.mp hc0).1
        have hc0e : M.getD c0 0 = M.getD j 0 + m - 262143 := by rw [List.getD_eq_getElem?_getD, hc0]; rfl
        rw [e]
        refine br_f (by omega) (br_f (by omega) ?_)
        rw [h.2.1.2.2, h.2.2.2.2.2.1, h.2.2.2.2.2.2, show Int.toNat (c0 : Int) = c0 by omega, ho rc hrc]
        refine ⟨h.1, rfl, ⟨by omega, by omega⟩, rfl, ⟨by omega, by omega⟩, fun I59 e59 => ih (j + 1) I59 (by omega) (by omega) (fun b hb2 => by rw [u_n e59 hb2]; exact ho b hb2) (fun c hc2 => ?_)⟩
        rw [lpV_s hi hjl]
        by_cases hcc : c = c0
        · subst hcc
          rw [u_s e59, if_pos ⟨hc0l, hc0e⟩]
        · rw [u_o e59 hcc, hx c hc2, if_neg (fun q => hcc (inc_eq hi q.1 hc0l (q.2.trans hc0e.symm)))]
  refine bX2_loadProduct ⟨h.1, ?_⟩
  rw [h.2.1.2.2]
  refine fill_spec h.2.2.2.2.2.1 h.2.2.2.2.2.2 (by omega) (fun I5 o5 h5 => loop M.length 0 I5 (by omega) (by omega) o5 (fun c hc2 => ?_))
  rw [h5 c hc2]
  unfold lpV
  rw [if_neg (fun q => absurd q.2.2 (Nat.not_lt_zero _))]
end R2b

