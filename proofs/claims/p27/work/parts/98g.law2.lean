/-! ===== the law: steps, the whole, what is left ===== -/
/-- after a division: what it was asked with, and what it led to -/
def AtD (s0 s : Ms) (st : Int) (d : Dv) : Prop := (s.p = s0.p ∧ s.n = s0.n ∧ s.w = s0.w) ∧ (∀ k, k < 4 → s.f k = s0.f k) ∧ s.dv = some (st, 0, d)
theorem AtD.put {s0 s : Ms} {st : Int} {d : Dv} (h : AtD s0 s st d) {k : Nat} {L : List Tm} (hk : 4 ≤ k) : AtD s0 (put s k L) st d := ⟨h.1, fun j hj => (if_neg (by omega)).trans (h.2.1 j hj), h.2.2⟩
theorem put_at {s : Ms} {k : Nat} {L : List Tm} : (put s k L).f k = L := if_pos rfl
theorem put_ne {s : Ms} {k j : Nat} {L : List Tm} (h : j ≠ k) : (put s k L).f j = s.f j := if_neg h
def DvI (s0 : Ms) (st : Int) (d : Dv) : Prop := DInv s0.p s0.n s0.w s0.f st 0 (begT (s0.p : Int) s0.f st 8).1 d
def bcs (st : Int) : Nat → Int
  | 0 => 0
  | k + 1 => bcs st k + bitI st k
theorem begT_bcs {p : Int} {f : Nat → List Tm} {st : Int} : ∀ n, ((begT p f st n).1 : Int) = bcs st n
  | 0 => rfl
  | n + 1 => by
    rw [begT, bcs]
    by_cases c : bitI st n = 1
    · rw [if_pos c, c, ← begT_bcs (p := p) (f := f) n]; rfl
    · rw [if_neg c, begT_bcs n]
      have := bit01 st n
      omega
theorem bitCount_all : ∀ n : Nat, n < 256 → vJ6_bitCount_0f7a4 (n : Int) = bcs (n : Int) 8 := by decide +kernel
theorem sm_le {g : Nat → Int} (h : ∀ k, g k = 0 ∨ g k = 1) : ∀ n, 0 ≤ sm g n ∧ sm g n ≤ (n : Int)
  | 0 => ⟨Int.le_refl _, Int.le_refl _⟩
  | n + 1 => by
    have := sm_le h n
    have := h n
    rw [sm]; omega
section LW2
variable {G : Gl} {S : Sh} {I : MI} {R : MR} {s s0 : Ms} {st : Int} {d : Dv}
theorem isStepped_loop {Q : Sh → MI → MR → Int → Prop} (h : LwS S I R s) (ha : AtD s0 s st d) (hi : DvI s0 st d) (hst : 0 ≤ st ∧ st < 256) (hq : ∀ S' I' R', LwS S' I' R' s → frL 1 S I R S' I' R' → Q S' I' R' 1) : ∀ (k i : Nat) (low : Int), d.1 - i = k → i ≤ d.1 → (i < d.1 → low ≤ d.2.2.2.2 i 4) → LL_isStepped_7 G 1 (d.1 : Int) (sm (fun j => d.2.2.2.2 j 3) i) low (i : Int) S I R Q := by
  have ht1 := h.t1
  obtain ⟨hO, -, -, -, -, -, hr, hm⟩ := hi
  have d40 : d.1 ≤ 40 ∧ d.2.1 ≤ 20 := hO.1
  have stp : ∀ {x1 x2 x : Int}, stepA s x1 x2 x → x = if x1 = -1 then (if x2 = 0 then (d.1 : Int) else if x2 = 1 then (d.2.1 : Int) else if x2 = 2 then 1 else -1) else if (0 ≤ x1 ∧ x1 < (d.1 : Int)) ∧ 0 ≤ x2 ∧ x2 ≤ 4 then d.2.2.2.2 x1.toNat x2.toNat else -1 := by
    intro x1 x2 x hx
    unfold stepA at hx
    rw [ha.2.2] at hx
    exact hx
  intro k
  induction k with
  | zero =>
    intro i low h1 h2 _
    have ei : i = d.1 := by omega
    refine bL_isStepped_7 ⟨fun _ => ⟨ht1, q_look h (fun x hx => ⟨ht1, q_step h (fun y hy => ⟨fun c => ?_, fun _ => ⟨ht1, q_step h (fun z hz => ⟨fun c => ?_, fun _ => hq S I R h (frL.rf.wk (by omega))⟩)⟩⟩)⟩)⟩, fun c => absurd (by omega) c⟩
    · exfalso
      have e1 := stp hy
      rw [if_pos rfl, if_neg (by omega), if_pos rfl] at e1
      unfold lookA at hx
      rw [if_neg (by omega), if_neg (by omega), if_neg (by omega), if_neg (by omega), if_neg (by omega), if_neg (by omega), if_neg (by omega), if_neg (by omega), ha.2.2] at hx
      have e2 : x = st := hx
      have e3 := bitCount_all st.toNat (by omega)
      rw [show ((st.toNat : Nat) : Int) = st by omega, ← begT_bcs (p := (s0.p : Int)) (f := s0.f)] at e3
      rw [e2, e3, ei] at c
      have nb := (begT_le (p := (s0.p : Int)) (f := s0.f) (s := st) 8)
      refine c ?_
      rw [hm, e1]
      exact w32_id ⟨by omega, by omega⟩
    · exfalso
      have e1 := stp hz
      rw [if_neg (by omega), if_neg (by omega)] at e1
      exact c e1
  | succ k ih =>
    intro i low h1 h2 hl
    have hid : i < d.1 := by omega
    obtain ⟨r1, r2, r3, r4, -⟩ := hr i hid
    have val : ∀ {x2 x : Int}, 0 ≤ x2 → x2 ≤ 4 → stepA s (i : Int) x2 x → x = d.2.2.2.2 i x2.toNat := by
      intro x2 x a1 a2 hx
      have e1 := stp hx
      rw [if_neg (by omega), if_pos ⟨⟨by omega, by omega⟩, a1, a2⟩, Int.toNat_natCast] at e1
      exact e1
    have sl := sm_le (g := fun j => if j < d.1 then d.2.2.2.2 j 3 else 0) (fun j => by
      show (if j < d.1 then d.2.2.2.2 j 3 else 0) = 0 ∨ (if j < d.1 then d.2.2.2.2 j 3 else 0) = 1
      by_cases c : j < d.1
      · rw [if_pos c]; exact (hr j c).1
      · rw [if_neg c]; exact Or.inl rfl) i
    rw [sm_congr (h := fun j => d.2.2.2.2 j 3) (fun j hj => if_pos (by omega))] at sl
    have goal51 : LL_isStepped_51 G 1 (d.1 : Int) (sm (fun j => d.2.2.2.2 j 3) i) low (i : Int) 0 0 S I R Q ∧ LL_isStepped_51 G 1 (d.1 : Int) (sm (fun j => d.2.2.2.2 j 3) i) low (i : Int) 1 1 S I R Q := by
      have go : ∀ y0 : Int, LL_isStepped_51 G 1 (d.1 : Int) (sm (fun j => d.2.2.2.2 j 3) i) low (i : Int) y0 y0 S I R Q := by
        intro y0
        refine bL_isStepped_51 ⟨fun c => absurd rfl c, fun _ => ⟨ht1, q_step h (fun x hx => ?_)⟩⟩
        have ex := val (by omega) (by omega) hx
        refine ⟨fun _ => ⟨ht1, q_step h (fun y hy => ⟨ht1, q_step h (fun z hz => ?_)⟩)⟩, fun c => absurd (by rw [ex]; exact hl hid) c⟩
        have ey := val (by omega) (by omega) hy
        have ez := val (by omega) (by omega) hz
        have w1 : w32 (sm (fun j => d.2.2.2.2 j 3) i + y) = sm (fun j => d.2.2.2.2 j 3) (i + 1) := by
          rw [sm, ey]
          exact w32_id ⟨by show _ ≤ _ + d.2.2.2.2 i 3; omega, by show _ + d.2.2.2.2 i 3 < _; omega⟩
        have w2 : w32 ((i : Int) + 1) = ((i + 1 : Nat) : Int) := (w32_id ⟨by omega, by omega⟩).trans (by omega)
        rw [w1, w2, ez]
        exact ih (i + 1) _ (by omega) (by omega) (fun c => r4 c)
      exact ⟨go 0, go 1⟩
    refine bL_isStepped_7 ⟨fun c => by omega, fun _ => ⟨ht1, q_step h (fun x hx => ⟨ht1, q_step h (fun y hy => ⟨fun c => ⟨ht1, q_step h (fun z hz => ?_)⟩, fun c => ⟨ht1, q_step h (fun z hz => ?_)⟩⟩)⟩)⟩⟩
    · have ex := val (by omega) (by omega) hx
      have ey := val (by omega) (by omega) hy
      have ez := val (by omega) (by omega) hz
      have e3 : ¬ d.2.2.2.2 i 3 = 1 := fun q => by
        have := r2.mpr q
        have ex : x = d.2.2.2.2 i 1 := ex
        have ey : y = d.2.2.2.2 i 2 := ey
        omega
      exact ⟨fun _ => goal51.1, fun q => absurd (fun e => e3 (by rw [ez] at e; exact e)) q⟩
    · have ex := val (by omega) (by omega) hx
      have ey := val (by omega) (by omega) hy
      have ez := val (by omega) (by omega) hz
      have e3 : d.2.2.2.2 i 3 = 1 := r2.mp (by
        have ex : x = d.2.2.2.2 i 1 := ex
        have ey : y = d.2.2.2.2 i 2 := ey
        omega)
      exact ⟨fun q => absurd (by rw [ez]; exact e3) q, fun _ => goal51.2⟩
theorem isStepped_spec {Q : Sh → MI → MR → Int → Prop} (h : LwS S I R s) (ha : AtD s0 s st d) (hi : DvI s0 st d) (hst : 0 ≤ st ∧ st < 256) (hq : ∀ S' I' R', LwS S' I' R' s → frL 1 S I R S' I' R' → Q S' I' R' 1) : CI G ML_isStepped [vR 1, vI (d.1 : Int)] S I R Q :=
  bL_isStepped (isStepped_loop h ha hi hst hq _ 0 (-1) rfl (Nat.zero_le _) (fun c => by
    have := (hi.2.2.2.2.2.2.1 0 c).2.2.1
    omega))
end LW2
