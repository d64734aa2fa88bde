/-! ===== X2: rows taken from a line, rows stored ===== -/
section R2c
variable {G : Gl} {S : Sh} {R : MR} {i nu : Nat} {p : Int} {Q : Sh → MI → MR → Prop}
theorem subtractRow_spec {I : MI} {l W : Nat} (h : IdS S R i) (hN : NumS S I nu p) (an : nu ≠ i + 123) (hW : W ≤ 120) (hl : l < W) (hx : ∀ c, c < W → 0 ≤ I (i + 123) c ∧ I (i + 123) c < p) (hr : ∀ c, c < W → 0 ≤ I (i + 2 + l) c ∧ I (i + 2 + l) c < p)
    (hq : ∀ I', off1 I I' (i + 123) → (∀ c, (c < l ∨ W ≤ c) → I' (i + 123) c = I (i + 123) c) → (∀ c, l ≤ c → c < W → I' (i + 123) c = (I (i + 123) c + ngP p (I (i + 123) l) * I (i + 2 + l) c) % p) → Q S I' R) : CV G MX2_subtractRow [vR i, vI (l : Int), vI (W : Int), vR nu] S I R Q := by
  have hp := hN.2.2
  have rl := h.2.2.2.1 l (by omega)
  have ng := ngP_r (hx l hl)
  have loop : ∀ (k c : Nat) (I1 : MI), W - c = k → l ≤ c → c ≤ W → off1 I I1 (i + 123) → (∀ j, (j < l ∨ c ≤ j) → I1 (i + 123) j = I (i + 123) j) → (∀ j, l ≤ j → j < c → I1 (i + 123) j = (I (i + 123) j + ngP p (I (i + 123) l) * I (i + 2 + l) j) % p) → LX2_subtractRow_23 G i (W : Int) nu (i + 2 + l) (ngP p (I (i + 123) l)) (c : Int) S I1 R Q := by
    intro k
    induction k with
    | zero =>
      intro c I1 hk hlc hc ho h1 h2
      exact bX2_subtractRow_23 (br_t (by omega) (hq I1 ho (fun j hj => h1 j (by omega)) (fun j hj1 hj2 => h2 j hj1 (by omega))))
    | succ k ih =>
      intro c I1 hk hlc hc ho h1 h2
      have hN1 : NumS S I1 nu p := ⟨hN.1, by rw [ho nu an]; exact hN.2.1, hN.2.2⟩
      refine bX2_subtractRow_23 (br_f (by omega) ?_)
      rw [rl.2.1, rl.2.2, show Int.toNat (c : Int) = c by omega, ho (i + 2 + l) (by omega), h.2.1.2.2, h.2.2.2.2.2.1, h.2.2.2.2.2.2, h1 c (by omega), add1 (by omega), v4pt hN1 (hx c (by omega)) ng (hr c (by omega))]
      refine ⟨rfl, ⟨by omega, by omega⟩, fun c0 => ?_, fun c0 => ⟨h.1, rfl, ⟨by omega, by omega⟩, hN.1, p4pt hN1, fun I61 e61 => ?_⟩⟩
      · refine ih (c + 1) I1 (by omega) (by omega) (by omega) ho (fun j hj => h1 j (by omega)) (fun j hj1 hj2 => ?_)
        by_cases hjc : j = c
        · subst hjc
          have := hx j (by omega)
          rw [h1 j (by omega), c0, Int.mul_zero, Int.add_zero, Int.emod_eq_of_lt this.1 this.2]
        · exact h2 j hj1 (by omega)
      · refine ih (c + 1) I61 (by omega) (by omega) (by omega) (fun b hb => by rw [u_n e61 hb]; exact ho b hb) (fun j hj => by rw [u_o e61 (by omega)]; exact h1 j (by omega)) (fun j hj1 hj2 => ?_)
        by_cases hjc : j = c
        · subst hjc; exact u_s e61
        · rw [u_o e61 hjc]; exact h2 j hj1 (by omega)
  refine bX2_subtractRow ⟨h.1, ?_⟩
  rw [h.2.1.1, h.2.2.1.1, h.2.2.1.2, h.2.1.2.2, h.2.2.2.2.2.1, h.2.2.2.2.2.2, show Int.toNat (l : Int) = l by omega, rl.1, v4n hN (hx l hl)]
  exact ⟨rfl, ⟨by omega, by omega⟩, rfl, ⟨by omega, by omega⟩, hN.1, p4n hN, loop (W - l) l I (by omega) (by omega) (by omega) (fun _ _ => rfl) (fun _ _ => rfl) (fun j h1 h2 => by omega)⟩
theorem storeRow_spec {I : MI} {l W : Nat} (h : IdS S R i) (hN : NumS S I nu p) (an : nu < i ∨ i + 123 < nu) (hW : W ≤ 120) (hl : l < W) (hx : ∀ c, c < W → 0 ≤ I (i + 123) c ∧ I (i + 123) c < p)
    (hq : ∀ I', (∀ b, b ≠ i + 2 + l → b ≠ i + 122 → I' b = I b) → (∀ c, (c < l ∨ W ≤ c) → I' (i + 2 + l) c = I (i + 2 + l) c) → (∀ c, l ≤ c → c < W → I' (i + 2 + l) c = I (i + 123) c * inv p (I (i + 123) l) % p) → (∀ c, c ≠ l → I' (i + 122) c = I (i + 122) c) → I' (i + 122) l = 2 → Q S I' R) : CV G MX2_storeRow [vR i, vI (l : Int), vI (W : Int), vR nu] S I R Q := by
  have hp := hN.2.2
  have rl := h.2.2.2.1 l (by omega)
  have hv := inv_r (p := p) (x := I (i + 123) l) hp.1
  have loop : ∀ (k c : Nat) (I1 : MI), W - c = k → l ≤ c → c ≤ W → off1 I I1 (i + 2 + l) → (∀ j, (j < l ∨ c ≤ j) → I1 (i + 2 + l) j = I (i + 2 + l) j) → (∀ j, l ≤ j → j < c → I1 (i + 2 + l) j = I (i + 123) j * inv p (I (i + 123) l) % p) → LX2_storeRow_15 G i (l : Int) (W : Int) nu (inv p (I (i + 123) l)) (c : Int) S I1 R Q := by
    intro k
    induction k with
    | zero =>
      intro c I1 hk hlc hc ho h1 h2
      refine bX2_storeRow_15 (br_t (by omega) ⟨h.1, ?_⟩)
      rw [h.2.1.2.1, h.2.2.2.2.1.1, h.2.2.2.2.1.2, show Int.toNat (l : Int) = l by omega]
      refine ⟨rfl, ⟨by omega, by omega⟩, fun I55 e55 => hq I55 (fun b b1 b2 => by rw [u_n e55 b2]; exact ho b b1) (fun j hj => by rw [u_n e55 (by omega)]; exact h1 j (by omega)) (fun j hj1 hj2 => by rw [u_n e55 (by omega)]; exact h2 j hj1 (by omega)) (fun j hj => by rw [u_o e55 hj, ho _ (by omega)]) (u_s e55)⟩
    | succ k ih =>
      intro c I1 hk hlc hc ho h1 h2
      have hN1 : NumS S I1 nu p := ⟨hN.1, by rw [ho nu (by omega)]; exact hN.2.1, hN.2.2⟩
      refine bX2_storeRow_15 (br_f (by omega) ⟨h.1, ?_⟩)
      rw [h.2.1.1, h.2.2.1.1, h.2.2.1.2, h.2.1.2.2, h.2.2.2.2.2.1, h.2.2.2.2.2.2, show Int.toNat (l : Int) = l by omega, show Int.toNat (c : Int) = c by omega, rl.1, rl.2.1, rl.2.2, ho (i + 123) (by omega), add1 (by omega), v4t hN1 (hx c (by omega)) hv]
      refine ⟨rfl, ⟨by omega, by omega⟩, rfl, ⟨by omega, by omega⟩, hN.1, p4t hN1, rfl, ⟨by omega, by omega⟩, fun I42 e42 => ?_⟩
      refine ih (c + 1) I42 (by omega) (by omega) (by omega) (fun b hb => by rw [u_n e42 hb]; exact ho b hb) (fun j hj => by rw [u_o e42 (by omega)]; exact h1 j (by omega)) (fun j hj1 hj2 => ?_)
      by_cases hjc : j = c
      · subst hjc; exact u_s e42
      · rw [u_o e42 hjc]; exact h2 j hj1 (by omega)
  refine bX2_storeRow ⟨h.1, ?_⟩
  rw [h.2.1.2.2, h.2.2.2.2.2.1, h.2.2.2.2.2.2, show Int.toNat (l : Int) = l by omega]
  exact ⟨rfl, ⟨by omega, by omega⟩, hN.1, inv_spec hN (hx l hl) (loop (W - l) l I (by omega) (by omega) (by omega) (fun _ _ => rfl) (fun _ _ => rfl) (fun j h1 h2 => by omega))⟩
end R2c

