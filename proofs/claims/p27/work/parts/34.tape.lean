/-! ===== the reader, as a function; X7: its small parts ===== -/
section RdDefs
variable (b : Nat → Int) (n : Nat)
def skF : Nat → Nat → Nat
  | 0, a => a
  | k + 1, a => if a < n ∧ b a = 32 then skF k (a + 1) else a
/-- behind the blanks -/
def sk (a : Nat) : Nat := skF b n (n - a) a
def see (a : Nat) : Int := if a < n then b a else -1
abbrev isDg (c : Int) : Prop := 48 ≤ c ∧ c ≤ 57
def rdF (most : Nat) : Nat → Nat → Nat → Int → Nat × Int
  | 0, _, a, v => (a, v)
  | k + 1, c, a, v => if a < n ∧ (48 ≤ b a ∧ b a ≤ 57) then rdF most k (c + 1) (a + 1) (if c < most then 10 * v + b a - 48 else v) else (a, v)
/-- where the digits end, and the value of the first ones -/
def dgs (most a : Nat) : Nat × Int := rdF b n most (n - a) 0 a 0
end RdDefs
section Rd
variable {b : Nat → Int} {n : Nat}
theorem sk_y {a : Nat} (h : a < n) (h2 : b a = 32) : sk b n a = sk b n (a + 1) := by
  unfold sk
  rw [show n - a = (n - (a + 1)) + 1 by omega, skF, if_pos ⟨h, h2⟩]
theorem sk_n {a : Nat} (h : ¬ (a < n ∧ b a = 32)) : sk b n a = a := by
  unfold sk
  cases n - a with
  | zero => rfl
  | succ k => rw [skF, if_neg h]
theorem sk_r : ∀ (k a : Nat), n - a = k → a ≤ n → a ≤ sk b n a ∧ sk b n a ≤ n ∧ ¬ (sk b n a < n ∧ b (sk b n a) = 32) := by
  intro k
  induction k with
  | zero => intro a h1 h2; rw [sk_n (by omega)]; exact ⟨by omega, h2, by omega⟩
  | succ k ih =>
    intro a h1 h2
    by_cases hc : a < n ∧ b a = 32
    · rw [sk_y hc.1 hc.2]
      have := ih (a + 1) (by omega) (by omega)
      exact ⟨by omega, this.2⟩
    · rw [sk_n hc]; exact ⟨by omega, h2, hc⟩
theorem sk_ge {a : Nat} (h : a ≤ n) : a ≤ sk b n a := (sk_r _ a rfl h).1
theorem sk_le {a : Nat} (h : a ≤ n) : sk b n a ≤ n := (sk_r _ a rfl h).2.1
theorem sk_sk {a : Nat} (h : a ≤ n) : sk b n (sk b n a) = sk b n a := sk_n (sk_r _ a rfl h).2.2
theorem see_lt {a : Nat} (h : see b n a ≠ -1) : a < n := by
  by_cases hc : a < n
  · exact hc
  · exact absurd (if_neg hc) h
theorem see_at {a : Nat} (h : a < n) : see b n a = b a := if_pos h
theorem rdF_r {most : Nat} : ∀ (k c a : Nat) (v : Int), n - a = k → a ≤ n → a ≤ (rdF b n most k c a v).1 ∧ (rdF b n most k c a v).1 ≤ n := by
  intro k
  induction k with
  | zero => intro c a v h1 h2; exact ⟨Nat.le_refl _, h2⟩
  | succ k ih =>
    intro c a v h1 h2
    rw [rdF]
    by_cases hc : a < n ∧ (48 ≤ b a ∧ b a ≤ 57)
    · rw [if_pos hc]
      have := ih (c + 1) (a + 1) (if c < most then 10 * v + b a - 48 else v) (by omega) (by omega)
      exact ⟨by omega, this.2⟩
    · rw [if_neg hc]; exact ⟨Nat.le_refl _, h2⟩
theorem dgs_r {most a : Nat} (h : a ≤ n) : a ≤ (dgs b n most a).1 ∧ (dgs b n most a).1 ≤ n := rdF_r _ 0 a 0 rfl h
theorem dgs_pos {most a : Nat} (h : a < n) (hd : 48 ≤ b a ∧ b a ≤ 57) : a < (dgs b n most a).1 := by
  unfold dgs
  rw [show n - a = (n - (a + 1)) + 1 by omega, rdF, if_pos ⟨h, hd⟩]
  have := rdF_r (b := b) (most := most) (n - (a + 1)) (0 + 1) (a + 1) (if 0 < most then 10 * 0 + b a - 48 else 0) rfl (by omega)
  omega
theorem dgs_none {most a : Nat} (hd : ¬ (a < n ∧ (48 ≤ b a ∧ b a ≤ 57))) : dgs b n most a = (a, 0) := by
  unfold dgs
  cases n - a with
  | zero => rfl
  | succ k => rw [rdF, if_neg hd]
def B10 : Nat → Int
  | 0 => 1
  | 1 => 10
  | 2 => 100
  | 3 => 1000
  | 4 => 10000
  | _ => 100000
theorem B10_s {k : Nat} (h : k < 5) : B10 (k + 1) = 10 * B10 k := by
  have : k = 0 ∨ k = 1 ∨ k = 2 ∨ k = 3 ∨ k = 4 := by omega
  rcases this with rfl | rfl | rfl | rfl | rfl <;> rfl
theorem B10_r (k : Nat) : 1 ≤ B10 k ∧ B10 k ≤ 100000 := by
  by_cases h : k < 5
  · have : k = 0 ∨ k = 1 ∨ k = 2 ∨ k = 3 ∨ k = 4 := by omega
    rcases this with rfl | rfl | rfl | rfl | rfl <;> decide
  · obtain ⟨j, rfl⟩ : ∃ j, k = j + 5 := ⟨k - 5, by omega⟩
    show 1 ≤ (100000 : Int) ∧ (100000 : Int) ≤ 100000
    decide
theorem rdF_v {most : Nat} (hm : most ≤ 5) : ∀ (k c a : Nat) (v : Int), 0 ≤ v ∧ v < B10 (min c most) → 0 ≤ (rdF b n most k c a v).2 ∧ (rdF b n most k c a v).2 < B10 most := by
  intro k
  have mono : ∀ c, B10 (min c most) ≤ B10 most := by
    intro c
    by_cases h : most ≤ c
    · rw [Nat.min_eq_right h]; exact Int.le_refl _
    · rw [Nat.min_eq_left (by omega)]
      have : ∀ d i, i + d ≤ 5 → B10 i ≤ B10 (i + d) := by
        intro d
        induction d with
        | zero => intro i _; exact Int.le_refl _
        | succ d ih =>
          intro i hi
          have h1 := ih i (by omega)
          have h2 : B10 (i + (d + 1)) = 10 * B10 (i + d) := B10_s (k := i + d) (by omega)
          have := B10_r (i + d)
          omega
      have h2 := this (most - c) c (by omega)
      rw [show c + (most - c) = most by omega] at h2
      exact h2
  induction k with
  | zero => intro c a v hv; have := mono c; exact ⟨hv.1, by show v < _; omega⟩
  | succ k ih =>
    intro c a v hv
    rw [rdF]
    by_cases hc : a < n ∧ (48 ≤ b a ∧ b a ≤ 57)
    · rw [if_pos hc]
      refine ih (c + 1) (a + 1) _ ?_
      by_cases h : c < most
      · rw [if_pos h, Nat.min_eq_left (by omega), B10_s (by omega)]
        rw [Nat.min_eq_left (by omega)] at hv
        omega
      · rw [if_neg h, Nat.min_eq_right (by omega)]
        rw [Nat.min_eq_right (by omega)] at hv
        exact hv
    · rw [if_neg hc]
      have := mono c
      exact ⟨hv.1, by show v < _; omega⟩
theorem dgs_v {most a : Nat} (hm : most ≤ 5) : 0 ≤ (dgs b n most a).2 ∧ (dgs b n most a).2 < B10 most := rdF_v hm _ 0 a 0 ⟨by decide, by rw [Nat.zero_min]; decide⟩
end Rd
def TpS (S : Sh) (R : MR) (t : Nat) : Prop := sT S t = 7 ∧ (R t 0 = t + 1 ∧ R t 4 = t + 2 ∧ R t 7 = t + 5) ∧ (sT S (t + 1) = 21 ∧ sL S (t + 1) = 200 ∧ sT S (t + 5) = 21 ∧ sL S (t + 5) = 3) ∧ PolyS S R (t + 2) 101
def TpB (I : MI) (t : Nat) (b : Nat → Int) (n : Nat) : Prop := I t 1 = (n : Int) ∧ n ≤ 200 ∧ ∀ i, i < n → I (t + 1) i = b i ∧ 0 ≤ b i ∧ b i < 256
/-- only some of its own fields change -/
def offK (I I' : MI) (t : Nat) (K : Nat → Prop) : Prop := (∀ c, c ≠ t → I' c = I c) ∧ ∀ j, ¬ K j → I' t j = I t j
theorem offK.rf {I : MI} {t : Nat} {K : Nat → Prop} : offK I I t K := ⟨fun _ _ => rfl, fun _ _ => rfl⟩
theorem offK.tr {I I1 I2 : MI} {t : Nat} {K : Nat → Prop} (h : offK I I1 t K) (h2 : offK I1 I2 t K) : offK I I2 t K := ⟨fun c x => (h2.1 c x).trans (h.1 c x), fun j x => (h2.2 j x).trans (h.2 j x)⟩
theorem offK.wk {I I' : MI} {t : Nat} {K K2 : Nat → Prop} (h : offK I I' t K) (hk : ∀ j, K j → K2 j) : offK I I' t K2 := ⟨h.1, fun j hj => h.2 j (fun q => hj (hk j q))⟩
theorem offK.u {I I' : MI} {t k : Nat} {v : Int} {K : Nat → Prop} (e : I' = up2 I t k v) (hk : K k) : offK I I' t K := ⟨fun c hc => u_n e hc, fun j hj => u_o e (fun q => hj (q ▸ hk))⟩
abbrev K5 : Nat → Prop := fun j => j = 5
abbrev K23 : Nat → Prop := fun j => j = 2 ∨ j = 3
abbrev K235 : Nat → Prop := fun j => j = 2 ∨ j = 3 ∨ j = 5
theorem TpB.o {I I' : MI} {t : Nat} {b : Nat → Int} {n : Nat} (h : TpB I t b n) (h1 : I' t 1 = I t 1) (h2 : I' (t + 1) = I (t + 1)) : TpB I' t b n := ⟨h1.trans h.1, h.2.1, fun i hi => by rw [h2]; exact h.2.2 i hi⟩
section R7
variable {G : Gl} {S : Sh} {R : MR} {t : Nat} {b : Nat → Int} {n : Nat}
theorem ah48 {Q : Sh → MI → MR → Int → Prop} {a : Nat} {I : MI} (h : TpS S R t) (hb : TpB I t b n) (ha : I t 5 = (a : Int)) (hq : Q S I R (see b n a)) : LX7_ahead_48 G t S I R Q := by
  have hn := hb.2.1
  refine bX7_ahead_48 ⟨h.1, ?_⟩
  rw [hb.1, ha, h.2.1.1, h.2.2.1.1, h.2.2.1.2.1, show Int.toNat (a : Int) = a by omega]
  refine ⟨fun c => ?_, fun c => br_f (by omega) ⟨rfl, ⟨by omega, by omega⟩, ?_⟩⟩
  · rw [see, if_neg (by omega)] at hq; exact hq
  · rw [see, if_pos (by omega)] at hq
    rw [(hb.2.2 a (by omega)).1]; exact hq
theorem ahead_spec {Q : Sh → MI → MR → Int → Prop} {a : Nat} {I : MI} (h : TpS S R t) (hb : TpB I t b n) (ha : I t 5 = (a : Int)) (hle : a ≤ n)
    (hq : ∀ I', offK I I' t K5 → I' t 5 = (sk b n a : Int) → Q S I' R (see b n (sk b n a))) : CI G MX7_ahead [vR t] S I R Q := by
  have hn := hb.2.1
  have loop : ∀ (k a : Nat) (I : MI), n - a = k → a ≤ n → TpB I t b n → I t 5 = (a : Int) → (∀ I', offK I I' t K5 → I' t 5 = (sk b n a : Int) → Q S I' R (see b n (sk b n a))) → LX7_ahead_0 G t S I R Q := by
    intro k
    induction k with
    | zero =>
      intro a I hk hle hb ha hq
      have e : sk b n a = a := sk_n (by omega)
      rw [e] at hq
      refine bX7_ahead_0 ⟨h.1, ?_⟩
      rw [hb.1, ha]
      exact br_t (by omega) (ah48 h hb ha (hq I offK.rf ha))
    | succ k ih =>
      intro a I hk hle hb ha hq
      refine bX7_ahead_0 ⟨h.1, ?_⟩
      rw [hb.1, ha, h.2.1.1, h.2.2.1.1, h.2.2.1.2.1, show Int.toNat (a : Int) = a by omega, (hb.2.2 a (by omega)).1]
      refine br_f (by omega) (br_f (by omega) ⟨rfl, ⟨by omega, by omega⟩, fun c => ?_, fun c => ?_⟩)
      · have e : sk b n a = a := sk_n (by omega)
        rw [e] at hq
        exact ah48 h hb ha (hq I offK.rf ha)
      · intro I42 e42
        rw [add1 (by omega)] at e42
        have ho : offK I I42 t K5 := offK.u e42 rfl
        rw [sk_y (by omega) (Decidable.not_not.mp c)] at hq
        exact ih (a + 1) I42 (by omega) (by omega) (hb.o (ho.2 1 (by decide)) (ho.1 _ (by omega))) (u_s e42) (fun I' h1 h2 => hq I' (ho.tr h1) h2)
  exact bX7_ahead (loop _ a I rfl hle hb ha hq)
theorem v7dg (c : Int) : (vX7_isDigit c = 0 ↔ ¬ isDg c) := by
  unfold vX7_isDigit isDg
  by_cases h1 : c < 48
  · rw [if_pos h1]; constructor
    · intro _; omega
    · intro _; rfl
  · rw [if_neg h1]
    by_cases h2 : 57 < c
    · rw [if_pos h2]; constructor
      · intro _; omega
      · intro _; rfl
    · rw [if_neg h2]; constructor
      · intro q; exact absurd q (by decide)
      · intro q; exact absurd ⟨by omega, by omega⟩ q
theorem blame_spec {Q : Sh → MI → MR → Prop} {w c : Int} {I : MI} (h : TpS S R t) (hq : ∀ I', offK I I' t K23 → (I t 2 = 0 → I' t 2 = w ∧ I' t 3 = c) → (I t 2 ≠ 0 → I' t 2 = I t 2 ∧ I' t 3 = I t 3) → Q S I' R) : CV G MX7_blame [vR t, vI w, vI c] S I R Q := by
  refine bX7_blame ⟨h.1, fun c1 => ?_, fun c1 => fun I9 e9 I14 e14 => ?_⟩
  · exact hq I offK.rf (fun q => absurd q c1) (fun _ => ⟨rfl, rfl⟩)
  · exact hq I14 ((offK.u e9 (Or.inl rfl)).tr (offK.u e14 (Or.inr rfl))) (fun _ => ⟨by rw [u_o e14 (by omega), u_s e9], u_s e14⟩) (fun q => absurd (Decidable.not_not.mp c1) q)
theorem readDigits_spec {Q : Sh → MI → MR → Int → Prop} {a most : Nat} {I : MI} (h : TpS S R t) (hb : TpB I t b n) (ha : I t 5 = (a : Int)) (hle : a ≤ n) (hm : most ≤ 5)
    (hq : ∀ I', offK I I' t K235 → I' t 5 = ((dgs b n most a).1 : Int) →
      (most < (dgs b n most a).1 - a → I t 2 = 0 → I' t 2 = 1 ∧ I' t 3 = (a : Int)) → (¬ most < (dgs b n most a).1 - a ∨ I t 2 ≠ 0 → I' t 2 = I t 2 ∧ I' t 3 = I t 3) → Q S I' R (dgs b n most a).2) : CI G MX7_readDigits [vR t, vI (most : Int)] S I R Q := by
  have hn := hb.2.1
  have l84 : ∀ (e : Nat) (v : Int) (I1 : MI), a ≤ e → e ≤ n → offK I I1 t K5 → I1 t 5 = (e : Int) → (e, v) = dgs b n most a → LX7_readDigits_84 G t (most : Int) (a : Int) v S I1 R Q := by
    intro e v I1 h1 h2 ho he hd
    rw [← hd] at hq
    refine bX7_readDigits_84 ⟨h.1, ?_⟩
    rw [he, w32_id (x := (e : Int) - (a : Int)) (by omega)]
    have o2 := ho.2 2 (by decide)
    have o3 := ho.2 3 (by decide)
    refine ⟨fun c => ?_, fun c => ?_⟩
    · exact hq I1 (ho.wk (fun j hj => Or.inr (Or.inr hj))) he (fun q => by simp only at q; omega) (fun _ => ⟨o2, o3⟩)
    · refine blame_spec h (fun I2 k1 k2 k3 => hq I2 ((ho.wk (fun j hj => Or.inr (Or.inr hj))).tr (k1.wk (fun j hj => hj.elim Or.inl (fun q => Or.inr (Or.inl q))))) ?_ (fun _ q => k2 (o2.trans q)) (fun q => ?_))
      · rw [k1.2 5 (by decide)]; exact he
      · have : I1 t 2 ≠ 0 := by rw [o2]; exact q.resolve_left (fun z => z (by simp only; omega))
        rw [(k3 this).1, (k3 this).2]; exact ⟨o2, o3⟩
  have loop : ∀ (k c e : Nat) (v : Int) (I1 : MI), n - e = k → e ≤ n → e = a + c → TpB I1 t b n → offK I I1 t K5 → I1 t 5 = (e : Int) → 0 ≤ v ∧ v < B10 (min c most) → rdF b n most k c e v = dgs b n most a → LX7_readDigits_7 G t (most : Int) (a : Int) v S I1 R Q := by
    intro k
    induction k with
    | zero =>
      intro c e v I1 hk h2 hec hb ho he hv hd
      refine bX7_readDigits_7 ⟨h.1, ?_⟩
      rw [hb.1, he]
      exact br_t (by omega) (l84 e v I1 (by omega) h2 ho he hd)
    | succ k ih =>
      intro c e v I1 hk h2 hec hb ho he hv hd
      have hbe := hb.2.2 e (by omega)
      refine bX7_readDigits_7 ⟨h.1, ?_⟩
      rw [hb.1, he, h.2.1.1, h.2.2.1.1, h.2.2.1.2.1, show Int.toNat (e : Int) = e by omega, hbe.1]
      have hB := B10_r (min c most)
      refine br_f (by omega) (br_f (by omega) ⟨rfl, ⟨by omega, by omega⟩, fun c1 => ?_, fun c1 => ?_⟩)
      · have nd := (v7dg _).mp c1
        refine l84 e v I1 (by omega) h2 ho he ?_
        rw [rdF, if_neg (fun q => nd q.2)] at hd
        exact hd
      · have yd : isDg (b e) := Decidable.of_not_not (fun q => c1 ((v7dg _).mpr q))
        rw [rdF, if_pos ⟨by omega, yd⟩] at hd
        have fwd : ∀ v2 I78, I78 = up2 I1 t 5 (w32 ((e : Int) + 1)) → 0 ≤ v2 ∧ v2 < B10 (min (c + 1) most) → v2 = (if c < most then 10 * v + b e - 48 else v) → LX7_readDigits_7 G t (most : Int) (a : Int) v2 S I78 R Q := by
          intro v2 I78 e78 hv2 ev
          rw [add1 (by omega)] at e78
          have ho2 : offK I1 I78 t K5 := offK.u e78 rfl
          exact ih (c + 1) (e + 1) v2 I78 (by omega) (by omega) (by omega) (hb.o (ho2.2 1 (by decide)) (ho2.1 _ (by omega))) (ho.tr ho2) (u_s e78) hv2 (by rw [ev]; exact hd)
        have := yd.1
        have := yd.2
        rw [w32_id (x := (e : Int) - (a : Int)) (by omega), w32_id (x := 10 * v) (by omega), w32_id (x := 10 * v + b e) (by omega), w32_id (x := 10 * v + b e - 48) (by omega)]
        refine ⟨fun c2 => fun I78 e78 => fwd _ I78 e78 ?_ (if_neg (by omega)).symm, fun c2 => fun I78 e78 => fwd _ I78 e78 ?_ (if_pos (by omega)).symm⟩
        · rw [Nat.min_eq_right (by omega)]
          rw [Nat.min_eq_right (by omega)] at hv
          exact hv
        · rw [Nat.min_eq_left (by omega), B10_s (by omega)]
          rw [Nat.min_eq_left (by omega)] at hv
          omega
  refine bX7_readDigits ⟨h.1, ?_⟩
  rw [ha]
  exact loop (n - a) 0 a 0 I rfl hle rfl hb offK.rf ha ⟨by decide, by rw [Nat.zero_min]; decide⟩ rfl
end R7

