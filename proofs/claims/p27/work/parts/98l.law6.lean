/-! ===== the law: a text comes into a slot ===== -/
def chL (L : List Int) (q : Nat) : Int := if q < L.length then L.getD q 0 else 32
def pk4 (c : Nat → Int) : Nat → Int
  | 0 => 0
  | 1 => c 0 * 16777216
  | 2 => c 0 * 16777216 + c 1 * 65536
  | 3 => c 0 * 16777216 + c 1 * 65536 + c 2 * 256
  | _ => c 0 * 16777216 + c 1 * 65536 + c 2 * 256 + c 3
theorem ior_add {a b i : Nat} (h : b < 2 ^ i) (ha : a * 2 ^ i + b < 2147483648) : ior ((a * 2 ^ i : Nat) : Int) (b : Int) = ((a * 2 ^ i + b : Nat) : Int) := by
  have h1 := Nat.shiftLeft_add_eq_or_of_lt h a
  rw [Nat.shiftLeft_eq] at h1
  have h2 : b ≤ a * 2 ^ i + b := Nat.le_add_left _ _
  have h3 : a * 2 ^ i ≤ a * 2 ^ i + b := Nat.le_add_right _ _
  rw [ior_nat (by omega) (by omega), ← h1]
theorem pk4_step {c : Nat → Int} (hc : ∀ t, 0 ≤ c t ∧ c t < 128) : ∀ t, t < 4 → ior (pk4 c t) (ishl (c t) (24 - 8 * (t : Int))) = pk4 c (t + 1) := by
  obtain ⟨n0, e0⟩ := nnI (hc 0).1
  obtain ⟨n1, e1⟩ := nnI (hc 1).1
  obtain ⟨n2, e2⟩ := nnI (hc 2).1
  obtain ⟨n3, e3⟩ := nnI (hc 3).1
  have r0 := (hc 0).2
  have r1 := (hc 1).2
  have r2 := (hc 2).2
  have r3 := (hc 3).2
  intro t ht
  have h4 : t = 0 ∨ t = 1 ∨ t = 2 ∨ t = 3 := by omega
  rcases h4 with rfl | rfl | rfl | rfl
  · rw [ishl_eq (by omega) (by decide) (by decide) (by show c 0 * 16777216 < _; omega)]
    show ior 0 (c 0 * 16777216) = c 0 * 16777216
    rw [e0]
    have := ior_add (a := 0) (b := n0 * 16777216) (i := 31) (by rw [e0] at r0; omega) (by rw [e0] at r0; omega)
    rw [Nat.zero_mul, Nat.zero_add] at this
    rw [show (n0 : Int) * 16777216 = ((n0 * 16777216 : Nat) : Int) by omega]
    exact this
  · rw [ishl_eq (by omega) (by decide) (by decide) (by show c 1 * 65536 < _; omega)]
    show ior (c 0 * 16777216) (c 1 * 65536) = c 0 * 16777216 + c 1 * 65536
    rw [e0] at r0
    rw [e1] at r1
    rw [e0, e1]
    have := ior_add (a := n0) (b := n1 * 65536) (i := 24) (by omega) (by omega)
    rw [show (n0 : Int) * 16777216 = ((n0 * 2 ^ 24 : Nat) : Int) by omega, show (n1 : Int) * 65536 = ((n1 * 65536 : Nat) : Int) by omega, this]
    omega
  · rw [ishl_eq (by omega) (by decide) (by decide) (by show c 2 * 256 < _; omega)]
    show ior (c 0 * 16777216 + c 1 * 65536) (c 2 * 256) = c 0 * 16777216 + c 1 * 65536 + c 2 * 256
    rw [e0] at r0
    rw [e1] at r1
    rw [e2] at r2
    rw [e0, e1, e2]
    have := ior_add (a := n0 * 256 + n1) (b := n2 * 256) (i := 16) (by omega) (by omega)
    rw [show (n0 : Int) * 16777216 + (n1 : Int) * 65536 = (((n0 * 256 + n1) * 2 ^ 16 : Nat) : Int) by omega, show (n2 : Int) * 256 = ((n2 * 256 : Nat) : Int) by omega, this]
    omega
  · rw [ishl_eq (by omega) (by decide) (by decide) (by show c 3 * 1 < _; omega)]
    show ior (c 0 * 16777216 + c 1 * 65536 + c 2 * 256) (c 3 * 1) = c 0 * 16777216 + c 1 * 65536 + c 2 * 256 + c 3
    rw [e0] at r0
    rw [e1] at r1
    rw [e2] at r2
    rw [e3] at r3
    rw [e0, e1, e2, e3]
    have := ior_add (a := n0 * 65536 + n1 * 256 + n2) (b := n3) (i := 8) (by omega) (by omega)
    rw [show (n0 : Int) * 16777216 + (n1 : Int) * 65536 + (n2 : Int) * 256 = (((n0 * 65536 + n1 * 256 + n2) * 2 ^ 8 : Nat) : Int) by omega, show (n3 : Int) * 1 = ((n3 : Nat) : Int) by omega, this]
    omega
theorem pk4_r {c : Nat → Int} (hc : ∀ t, 0 ≤ c t ∧ c t < 128) : 0 ≤ pk4 c 4 ∧ pk4 c 4 < 2147483648 := by
  have r0 := hc 0
  have r1 := hc 1
  have r2 := hc 2
  have r3 := hc 3
  show 0 ≤ c 0 * 16777216 + c 1 * 65536 + c 2 * 256 + c 3 ∧ c 0 * 16777216 + c 1 * 65536 + c 2 * 256 + c 3 < _
  omega
theorem pk4_byt {c : Nat → Int} (hc : ∀ t, 0 ≤ c t ∧ c t < 128) : ∀ t, t < 4 → byt (pk4 c 4) (24 - 8 * t) = c t := by
  have r0 := hc 0
  have r1 := hc 1
  have r2 := hc 2
  have r3 := hc 3
  have e : pk4 c 4 = c 0 * 16777216 + c 1 * 65536 + c 2 * 256 + c 3 := rfl
  intro t ht
  have h4 : t = 0 ∨ t = 1 ∨ t = 2 ∨ t = 3 := by omega
  rw [e]
  unfold byt
  rcases h4 with rfl | rfl | rfl | rfl
  · show (c 0 * 16777216 + c 1 * 65536 + c 2 * 256 + c 3) / 16777216 % 256 = c 0; omega
  · show (c 0 * 16777216 + c 1 * 65536 + c 2 * 256 + c 3) / 65536 % 256 = c 1; omega
  · show (c 0 * 16777216 + c 1 * 65536 + c 2 * 256 + c 3) / 256 % 256 = c 2; omega
  · show (c 0 * 16777216 + c 1 * 65536 + c 2 * 256 + c 3) / 1 % 256 = c 3; omega
theorem chL_r {L : List Int} (h : ∀ c ∈ L, 43 ≤ c ∧ c < 128) (q : Nat) : 0 ≤ chL L q ∧ chL L q < 128 := by
  unfold chL
  by_cases c : q < L.length
  · rw [if_pos c, List.getD_eq_getElem?_getD, List.getElem?_eq_getElem c]
    have := h _ (List.getElem_mem c)
    show 0 ≤ L[q] ∧ L[q] < 128
    omega
  · rw [if_neg c]; omega
section LW6
variable {G : Gl} {S : Sh} {I : MI} {R : MR} {s : Ms} {t slot : Nat} {L : List Int}
/-- the twenty letters of a block, packed as far as i -/
def PkV (I : MI) (v : Nat) (L : List Int) (at_ i : Nat) : Prop := ∀ j, j < 5 → I v j = pk4 (fun q => chL L (at_ + 4 * j + q)) (min 4 (i - 4 * j))
theorem poly_in {Q : Sh → MI → MR → Int → Prop} {S0 : Sh} {I0 : MI} {R0 : MR} {at_ : Nat} (h0 : LwS S0 I0 R0 s) (hs : StH 1310 S0 I0 R0 t L) (hL : ∀ c ∈ L, 43 ≤ c ∧ c < 128) (hl : L.length ≤ 44) (hat : at_ ≤ 40)
    (hq : ∀ (S1 : Sh) (I1 : MI) (R1 : MR), grw S0 I0 R0 S1 I1 R1 (sN S0) → sN S1 = sN S0 + 1 → sU S1 = sU S0 + 5 → sT S1 (sN S0) = 21 → sL S1 (sN S0) = 5 → PkV I1 (sN S0) L at_ 20 → LL_poly_18 G 1 (slot : Int) t (at_ : Int) (sN S0) 20 S1 I1 R1 Q) :
    ∀ (k i : Nat) (S1 : Sh) (I1 : MI) (R1 : MR), 20 - i = k → i ≤ 20 → grw S0 I0 R0 S1 I1 R1 (sN S0) → sN S1 = sN S0 + 1 → sU S1 = sU S0 + 5 → sT S1 (sN S0) = 21 → sL S1 (sN S0) = 5 → PkV I1 (sN S0) L at_ i → LL_poly_18 G 1 (slot : Int) t (at_ : Int) (sN S0) (i : Int) S1 I1 R1 Q := by
  intro k
  induction k with
  | zero =>
    intro i S1 I1 R1 h1 h2 g n1 u1 t1 l1 hp
    have ei : i = 20 := by omega
    subst ei
    exact hq S1 I1 R1 g n1 u1 t1 l1 hp
  | succ k ih =>
    intro i S1 I1 R1 h1 h2 g n1 u1 t1 l1 hp
    have i20 : i < 20 := by omega
    have hs1 := hs.gr g hs.1.2.2 hs.2.1.2.2 (by omega)
    have id4 : idiv (i : Int) 4 = ((i / 4 : Nat) : Int) := by rw [idiv_eq (by omega) (by omega) (by omega) (by omega)]; omega
    have ir4 : irem (i : Int) 4 = ((i % 4 : Nat) : Int) := by rw [irem_eq (by omega) (by omega) (by omega) (by omega)]; omega
    have wa : w32 ((at_ : Int) + (i : Int)) = ((at_ + i : Nat) : Int) := (w32_id ⟨by omega, by omega⟩).trans (by omega)
    have wi : w32 ((i : Int) + 1) = ((i + 1 : Nat) : Int) := (w32_id ⟨by omega, by omega⟩).trans (by omega)
    have w8 : w32 (24 - w32 (8 * irem (i : Int) 4)) = 24 - 8 * ((i % 4 : Nat) : Int) := by
      rw [ir4, w32_id (x := 8 * ((i % 4 : Nat) : Int)) ⟨by omega, by omega⟩, w32_id ⟨by omega, by omega⟩]
    -- a letter is put in
    have put57 : ∀ ch : Int, ch = chL L (at_ + i) → LL_poly_57 G 1 (slot : Int) t (at_ : Int) (sN S0) (i : Int) ch (I1 (sN S0) (Int.toNat (idiv (i : Int) 4))) (idiv (i : Int) 4) (sN S0) S1 I1 R1 Q := by
      intro ch ech
      refine bL_poly_57 ⟨t1, by rw [id4, l1]; omega, fun I2 e2 => ?_⟩
      rw [w8, id4, Int.toNat_natCast, hp (i / 4) (by omega), ech] at e2
      rw [wi]
      have m1 : min 4 (i - 4 * (i / 4)) = i % 4 := by omega
      have stp := pk4_step (c := fun q => chL L (at_ + 4 * (i / 4) + q)) (fun q => chL_r hL _) (i % 4) (by omega)
      rw [show at_ + 4 * (i / 4) + i % 4 = at_ + i by omega] at stp
      rw [m1, stp] at e2
      refine ih (i + 1) S1 I2 R1 (by omega) (by omega) (g.tr (grw.upI e2 (Nat.le_refl _))) n1 u1 t1 l1 (fun j hj => ?_)
      by_cases c : j = i / 4
      · rw [e2, c, up2_ss, show min 4 (i + 1 - 4 * (i / 4)) = i % 4 + 1 by omega]
      · rw [e2, up2_sn c, hp j hj]
        congr 1
        omega
    refine bL_poly_18 ⟨fun c => by omega, fun _ => ⟨t1, by rw [id4, l1]; omega, hs1.1.1, strLen_spec hs1 (by omega) ?_⟩⟩
    rw [wa]
    refine ⟨fun c => put57 32 ?_, fun c => ⟨hs1.1.1, ?_⟩⟩
    · unfold chL
      rw [if_neg (by omega)]
    · have hlt : at_ + i < L.length := by omega
      have hx := List.getElem?_eq_getElem hlt
      have hr := hL _ (List.getElem_mem hlt)
      refine charAt_spec hs1 (by omega) hx (by omega) (put57 _ ?_)
      unfold chL
      rw [if_pos hlt, List.getD_eq_getElem?_getD, hx]
      rfl
/-- states whose ring and division are alike -/
def sameR (s s' : Ms) : Prop := s'.p = s.p ∧ s'.n = s.n ∧ s'.w = s.w ∧ s'.dv = s.dv
theorem poly_loop {Q : Sh → MI → MR → Int → Prop} {s0 : Ms} {k0 : Nat} {n : Int} (hn : n = 1 ∨ n = 2 ∨ n = 3) (hk0 : k0 ≤ 3) (hT : TxD n (k0 + 1) L) (hsl : slot < 8) (h0 : s0.n = n) :
    ∀ (k i : Nat) (S : Sh) (I : MI) (R : MR) (s : Ms), 3 - i = k → i ≤ 3 → LwS S I R s → StH 1310 S I R t L → sameR s0 s → s.tn = 20 * i → (∀ q, q < 20 * i → s.b q = chL L q) →
      (∀ S' I' R' s' x, LwS S' I' R' s' → frL (10 * (3 - i) + 5) S I R S' I' R' → sameR s0 s' → s'.tn = 0 → 0 ≤ x → Q S' I' R' x) → LL_poly_2 G 1 (slot : Int) t ((20 * i : Nat) : Int) S I R Q := by
  have hL := hT.r
  have hl : L.length ≤ 44 := by have := hT.len; omega
  intro k
  have fin : ∀ (i : Nat) (S : Sh) (I : MI) (R : MR) (s : Ms), L.length ≤ 20 * i → LwS S I R s → StH 1310 S I R t L → sameR s0 s → s.tn = 20 * i → (∀ q, q < 20 * i → s.b q = chL L q) →
      (∀ S' I' R' s' x, LwS S' I' R' s' → frL 2 S I R S' I' R' → sameR s0 s' → s'.tn = 0 → 0 ≤ x → Q S' I' R' x) → sT S t = 10 ∧ CI G MJ0_length_8abf5 [vR t] S I R (fun S1 I1 R1 x => sT S1 1 = 9 ∧ CI G MX9_end [vR 1, vI x] S1 I1 R1 (fun S2 I2 R2 _ => sT S2 1 = 9 ∧ CI G MX9_poly [vR 1, vI (slot : Int)] S2 I2 R2 (fun S3 I3 R3 x3 => Q S3 I3 R3 x3))) := by
    intro i S I R s hle h hs hR ht hb hq
    refine ⟨hs.1.1, strLen_spec hs (by omega) ⟨h.t1, q_end h (fun S1 I1 R1 x s1 h1 f1 k1 => ⟨h1.t1, q_poly h1 (fun S2 I2 R2 y s2 h2 f2 k2 => ?_)⟩)⟩⟩
    obtain ⟨-, e1⟩ := k1.1 ⟨by omega, by omega⟩
    rw [Int.toNat_natCast] at e1
    have bt : BytT s1.b s1.tn L := by
      rw [e1]
      refine ⟨rfl, fun q x hx => ?_, fun x hx => by have := hL x hx; omega⟩
      have hq2 := (List.getElem?_eq_some_iff.mp hx).1
      show s.b q = x
      rw [hb q (by omega)]
      unfold chL
      rw [if_pos hq2, List.getD_eq_getElem?_getD, hx]
      rfl
    have hn1 : s1.n = n := by rw [e1]; show s.n = n; rw [hR.2.1, h0]
    obtain ⟨M, eM⟩ := rdP_TxD (p := (s1.p : Int)) (w := s1.w) bt hn hk0 hT
    rw [← hn1] at eM
    obtain ⟨ey, es⟩ := (k2.2 (by omega)).2 M eM
    rw [es] at h2
    refine hq S2 I2 R2 _ y h2 (f1.tr f2 (by omega)) ?_ rfl (by omega)
    rw [e1]
    exact hR
  induction k with
  | zero =>
    intro i S I R s h1 h2 h hs hR ht hb hq
    have ei : i = 3 := by omega
    refine bL_poly_2 ⟨hs.1.1, strLen_spec hs (by omega) ⟨fun _ => fin i S I R s (by omega) h hs hR ht hb (fun S' I' R' s' x a f b c d => hq S' I' R' s' x a (f.wk (by omega)) b c d), fun c => absurd (by omega) c⟩⟩
  | succ k ih =>
    intro i S I R s h1 h2 h hs hR ht hb hq
    refine bL_poly_2 ⟨hs.1.1, strLen_spec hs (by omega) ⟨fun c => fin i S I R s (by omega) h hs hR ht hb (fun S' I' R' s' x a f b c d => hq S' I' R' s' x a (f.wk (by omega)) b c d), fun c => fun S1 I1 R1 eS eI eR => ?_⟩⟩
    have n1 : sN S1 = sN S + 1 := by rw [eS, sN_new]
    have u1 : sU S1 = sU S + 5 := by rw [eS, sU_new]
    have g1 : grw S I R S1 I1 R1 (sN S) := by rw [eS, eI, eR]; exact grw.new (Nat.le_refl _)
    refine poly_in (s := s) (L := L) (at_ := 20 * i) h hs hL hl (by omega) (fun S2 I2 R2 g2 n2 u2 t2 l2 hp => ?_) 20 0 S1 I1 R1 rfl (by omega) g1 n1 u1 (by rw [eS, sT_new, up1_s]) (by rw [eS, sL_new, up1_s]) (fun j hj => ?_)
    · have h2 := h.gr g2 (by omega)
      have hs2 := hs.gr g2 hs.1.2.2 hs.2.1.2.2 (by omega)
      have wd9 : ∀ j, j < 5 → I2 (sN S) j = pk4 (fun q => chL L (20 * i + 4 * j + q)) 4 := fun j hj => by
        rw [hp j hj, show min 4 (20 - 4 * j) = 4 by omega]
      have wr : ∀ j, j < 5 → InR (I2 (sN S) j) := fun j hj => by
        rw [wd9 j hj]
        have := pk4_r (c := fun q => chL L (20 * i + 4 * j + q)) (fun q => chL_r hL _)
        unfold InR
        omega
      refine bL_poly_18 ⟨fun _ => ⟨t2, by rw [l2]; omega, by rw [l2]; omega, by rw [l2]; omega, by rw [l2]; omega, by rw [l2]; omega, h2.t1, q_feed h2 (wr 0 (by omega)) (wr 1 (by omega)) (wr 2 (by omega)) (wr 3 (by omega)) (wr 4 (by omega)) (fun S3 I3 R3 x s3 h3 f3 k3 => ?_)⟩, fun q => absurd (by omega) q⟩
      obtain ⟨-, e3⟩ := k3.1 (by omega)
      have w3 : w32 (((20 * i : Nat) : Int) + 20) = ((20 * (i + 1) : Nat) : Int) := (w32_id ⟨by omega, by omega⟩).trans (by omega)
      rw [w3]
      have fg : frL 5 S I R S2 I2 R2 := g2.fr (Nat.le_refl _) (by omega) (by omega) (by omega)
      refine ih (i + 1) S3 I3 R3 s3 (by omega) (by omega) h3 (hs2.fr (Nat.le_refl _) f3) ?_ ?_ (fun q hq3 => ?_) (fun S' I' R' s' x a f b c d => hq S' I' R' s' x a ((fg.tr f3 (c := 6) (by omega)).tr f (by omega)) b c d)
      · rw [e3]; exact hR
      · rw [e3]
        show s.tn + 20 = _
        omega
      · rw [e3]
        show fdB s.b s.tn _ _ _ _ _ q = _
        unfold fdB
        rw [ht]
        by_cases c9 : q < 20 * i
        · rw [if_pos c9]; exact hb q c9
        · rw [if_neg c9]
          obtain ⟨j, tt, ej, hj, htt⟩ : ∃ j tt, q - 20 * i = 4 * j + tt ∧ j < 5 ∧ tt < 4 := ⟨(q - 20 * i) / 4, (q - 20 * i) % 4, by omega, by omega, by omega⟩
          have ew : wd (I2 (sN S) (Int.toNat 0)) (I2 (sN S) (Int.toNat 1)) (I2 (sN S) (Int.toNat 2)) (I2 (sN S) (Int.toNat 3)) (I2 (sN S) (Int.toNat 4)) (q - 20 * i) = I2 (sN S) j := by
            rw [ej]
            have h5 : j = 0 ∨ j = 1 ∨ j = 2 ∨ j = 3 ∨ j = 4 := by omega
            unfold wd
            rcases h5 with rfl | rfl | rfl | rfl | rfl
            · rw [if_pos (by omega)]; rfl
            · rw [if_neg (by omega), if_pos (by omega)]; rfl
            · rw [if_neg (by omega), if_neg (by omega), if_pos (by omega)]; rfl
            · rw [if_neg (by omega), if_neg (by omega), if_neg (by omega), if_pos (by omega)]; rfl
            · rw [if_neg (by omega), if_neg (by omega), if_neg (by omega), if_neg (by omega)]; rfl
          rw [ew, wd9 j hj, ej, show (4 * j + tt) % 4 = tt by omega, pk4_byt (fun q => chL_r hL _) tt htt]
          congr 1
          omega
    · rw [eI, Nat.zero_sub]
      exact congrFun (up1_s _ _ _) j
theorem poly_spec {Q : Sh → MI → MR → Int → Prop} {k0 : Nat} {n : Int} (hn : n = 1 ∨ n = 2 ∨ n = 3) (hk0 : k0 ≤ 3) (hT : TxD n (k0 + 1) L) (hsl : slot < 8) (h : LwS S I R s) (h0 : s.n = n) (ht : s.tn = 0) (hs : StH 1310 S I R t L)
    (hq : ∀ S' I' R' s' x, LwS S' I' R' s' → frL 35 S I R S' I' R' → sameR s s' → s'.tn = 0 → 0 ≤ x → Q S' I' R' x) : CI G ML_poly [vR 1, vI (slot : Int), vR t] S I R Q :=
  bL_poly (poly_loop hn hk0 hT hsl h0 3 0 S I R s rfl (by omega) h hs ⟨rfl, rfl, rfl, rfl⟩ (by omega) (fun q hq => absurd hq (by omega)) (fun S' I' R' s' x a f b c d => hq S' I' R' s' x a (f.wk (by omega)) b c d))
end LW6
