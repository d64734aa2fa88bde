/-! ===== X10: feed, look, ring, weights, part ===== -/
def byt (x : Int) (k : Nat) : Int := x / ((2 ^ k : Nat) : Int) % 256
theorem byt_s {x : Int} {k : Nat} (hx : InR x) (hk : k = 24 ∨ k = 16 ∨ k = 8 ∨ k = 0) : iand (i2b (ishr x (k : Int))) 255 = byt x k ∧ -128 ≤ i2b (ishr x (k : Int)) ∧ i2b (ishr x (k : Int)) < 128 := by
  have hr : InR (x / ((2 ^ k : Nat) : Int)) := by
    unfold InR at hx ⊢
    rcases hk with rfl | rfl | rfl | rfl
    · show -2147483648 ≤ x / 16777216 ∧ x / 16777216 < 2147483648; omega
    · show -2147483648 ≤ x / 65536 ∧ x / 65536 < 2147483648; omega
    · show -2147483648 ≤ x / 256 ∧ x / 256 < 2147483648; omega
    · show -2147483648 ≤ x / 1 ∧ x / 1 < 2147483648; omega
  rw [ishr_eq hx (by omega) (by omega), show Int.toNat (k : Int) = k by omega, i2b_eq _ hr]
  have b1 := Int.le_bmod (x := x / ((2 ^ k : Nat) : Int)) (m := 256) (by decide)
  have b2 := Int.bmod_lt (x := x / ((2 ^ k : Nat) : Int)) (m := 256) (by decide)
  refine ⟨?_, by omega, by omega⟩
  rw [iand_255 (by unfold InR; omega)]
  exact Int.bmod_emod
theorem byt_u {x : Int} {k : Nat} (hx : InR x) (hk : k = 24 ∨ k = 16 ∨ k = 8 ∨ k = 0) : iand (iushr x (k : Int)) 255 = byt x k := by
  have hk32 : k < 32 := by omega
  have h1 := pk_ushr (Int32.ofInt x) (nI k) k (sh_u k hk32)
  have h2 : iushr x (k : Int) = ((Int32.ofInt x).toUInt32 >>> ((nI k).toUInt32 &&& Int32.toUInt32 31)).toInt32.toInt := by unfold iushr; rw [ofI]
  have h3 := tn_toInt ((Int32.ofInt x).toUInt32 >>> ((nI k).toUInt32 &&& Int32.toUInt32 31)).toInt32
  have h4 := tn_toInt (Int32.ofInt x)
  rw [o32 hx] at h4
  rw [h1, Int.natCast_ediv, h4, ← h2] at h3
  have hr : InR (iushr x (k : Int)) := by rw [h2]; exact InR_toInt _
  rw [iand_255 hr]
  unfold byt
  unfold InR at hx
  rcases hk with rfl | rfl | rfl | rfl
  · have e : (((2 ^ 24 : Nat) : Nat) : Int) = 16777216 := rfl
    rw [e] at h3 ⊢; omega
  · have e : (((2 ^ 16 : Nat) : Nat) : Int) = 65536 := rfl
    rw [e] at h3 ⊢; omega
  · have e : (((2 ^ 8 : Nat) : Nat) : Int) = 256 := rfl
    rw [e] at h3 ⊢; omega
  · have e : (((2 ^ 0 : Nat) : Nat) : Int) = 1 := rfl
    rw [e] at h3 ⊢; omega
def wd (a b c d e : Int) (j : Nat) : Int := if j < 4 then a else if j < 8 then b else if j < 12 then c else if j < 16 then d else e
def fdB (bb : Nat → Int) (n : Nat) (a b c d e : Int) : Nat → Int := fun i => if i < n then bb i else byt (wd a b c d e (i - n)) (24 - 8 * ((i - n) % 4))
def fdS (s : Ms) (a b c d e : Int) : Ms := (s.1, s.2.1, (fdB s.b s.tn a b c d e, s.tn + 20), s.2.2.2)
def feedA (s : Ms) (a b c d e x : Int) (s' : Ms) : Prop := (s.tn + 20 ≤ 200 → x = (s.tn : Int) + 20 ∧ s' = fdS s a b c d e) ∧ (¬ s.tn + 20 ≤ 200 → x = -1 ∧ s' = s)
section RB2
variable {G : Gl} {S : Sh} {R : MR} {m : Nat} {s : Ms} {I I' : MI} {Q : Sh → MI → MR → Int → Prop}
theorem RefD.re {p n : Int} {w : Nat → Int} {dv : Option (Int × Nat × Dv)} (h : RefD I m dv) (hd : DvOK p n w dv) (c2 : I' (m + 2) = I (m + 2)) (c3 : I' (m + 3) = I (m + 3)) (c4 : I' (m + 4) = I (m + 4)) (c10 : I' (m + 10) = I (m + 10)) (fs : ∀ j, 20 ≤ j → j ≤ 25 → I' m j = I m j) : RefD I' m dv := by
  have ro : ∀ {r : Nat} {L : List Tm}, RowH I m r L → RowH I' m r L := fun hr => by unfold RowH; rw [c2, c3, c4]; exact hr
  cases dv with
  | none => show I' m 20 = 0; rw [fs 20 (by omega) (by omega)]; exact h
  | some x =>
    obtain ⟨st, a, d⟩ := x
    have h2 : I m 20 = 1 ∧ I m 21 = st ∧ I m 22 = (a : Int) ∧ DvH I m st d := h
    show I' m 20 = 1 ∧ I' m 21 = st ∧ I' m 22 = (a : Int) ∧ DvH I' m st d
    rw [fs 20 (by omega) (by omega), fs 21 (by omega) (by omega), fs 22 (by omega) (by omega)]
    have g := h2.2.2.2
    refine ⟨h2.1, h2.2.1, h2.2.2.1, by rw [fs 23 (by omega) (by omega), fs 24 (by omega) (by omega), fs 25 (by omega) (by omega)]; exact g.1, ⟨ro g.2.1.1, ro g.2.1.2.1, fun j hj hb => ro (g.2.1.2.2 j hj hb)⟩, fun i hi => ?_, fun i hi j hj => by rw [c10]; exact g.2.2.2 i hi j hj⟩
    have k1 := g.2.2.1 i hi
    exact ⟨ro k1.1, fun q => ⟨ro (k1.2 q).1, fun j hj hb => ro ((k1.2 q).2 j hj hb)⟩⟩
theorem RefV.re (h : RefV I m s) (hs : MsOK s) (c1 : I' (m + 1) = I (m + 1)) (c2 : I' (m + 2) = I (m + 2)) (c3 : I' (m + 3) = I (m + 3)) (c4 : I' (m + 4) = I (m + 4)) (c10 : I' (m + 10) = I (m + 10)) (f1 : I' m 1 = I m 1) (f2 : I' m 2 = I m 2) (fs : ∀ j, 20 ≤ j → j ≤ 25 → I' m j = I m j) {t : (Nat → Int) × Nat} {fl : Int × Int} {sh : List Int}
    (ht : I' m 11 = (t.2 : Int) ∧ ∀ i, i < t.2 → iand (I' (m + 7) i) 255 = t.1 i) (hf : I' m 14 = fl.1 ∧ I' m 15 = fl.2) (hsh : I' m 19 = (sh.length : Int) ∧ Arr I' (m + 9) sh) : RefV I' m (s.1, s.2.1, t, fl, sh, s.2.2.2.2.2) :=
  ⟨⟨f1.trans h.1.1, h.1.2.1, fun i hi => by rw [c1]; exact h.1.2.2.1 i hi, h.1.2.2.2⟩, ⟨f2.trans h.2.1.1, h.2.1.2⟩, fun k hk => by have := h.2.2.1 k hk; unfold RowH at this ⊢; rw [c2, c3, c4]; exact this, ht, hf, hsh, h.2.2.2.2.2.2.re hs.2.2.2.2.2.2 c2 c3 c4 c10 fs⟩
theorem ref_feed (h : RfS S R m) (hs : MsOK s) (hv : RefV I m s) {a b c d e : Int} (ra : InR a) (rb : InR b) (rc : InR c) (rd : InR d) (re : InR e) (hq : ∀ I' x s', offX I I' m (m + 14) → RefV I' m s' → feedA s a b c d e x s' → Q S I' R x) : CI G MX10_feed [vR m, vI a, vI b, vI c, vI d, vI e] S I R Q := by
  have ht := hs.2.2.2.2.1
  refine bX10_feed ⟨h.1, fun I2 e2 => ?_⟩
  have o2 : offS I I2 m := offS.u e2 (Or.inl rfl)
  have hv2 := hv.oS hs o2
  have t2 := hv2.2.2.2.1
  rw [t2.1, w32_id (by omega)]
  refine ⟨fun c20 => ?_, fun c20 => hq I2 _ s o2.X hv2 ⟨fun z => absurd z (by omega), fun _ => ⟨rfl, rfl⟩⟩⟩
  have hb := fdB s.b s.tn a b c d e
  have loop : ∀ (q j : Nat) (J : MI), 20 - j = q → j ≤ 20 → (∀ x, x ≠ m → x ≠ m + 7 → J x = I2 x) → (∀ x, x ≠ 11 → J m x = I2 m x) → J m 11 = ((s.tn + j : Nat) : Int) → (∀ i, i < s.tn + j → iand (J (m + 7) i) 255 = fdB s.b s.tn a b c d e i) → LX10_feed_23 G m a b c d e (j : Int) S J R Q := by
    intro q
    induction q with
    | zero =>
      intro j J hq1 hj oJ oM h11 hB
      have ej : j = 20 := by omega
      rw [ej] at h11 hB
      refine bX10_feed_23 (br_t (by omega) ⟨h.1, hq J _ _ (o2.X.tr (fun x hx => oJ x (by omega) (by omega))) ?_ ⟨fun _ => ⟨?_, rfl⟩, fun z => absurd z (by omega)⟩⟩)
      · exact hv2.re hs (oJ _ (by omega) (by omega)) (oJ _ (by omega) (by omega)) (oJ _ (by omega) (by omega)) (oJ _ (by omega) (by omega)) (oJ _ (by omega) (by omega)) (oM 1 (by omega)) (oM 2 (by omega)) (fun j h1 h2 => oM j (by omega)) ⟨h11, hB⟩ (by rw [oM 14 (by omega), oM 15 (by omega)]; exact hv2.2.2.2.2.1) ⟨by rw [oM 19 (by omega)]; exact hv2.2.2.2.2.2.1.1, fun i x hx => by rw [oJ _ (by omega) (by omega)]; exact hv2.2.2.2.2.2.1.2 i x hx⟩
      · rw [h11]; omega
    | succ q ih =>
      intro j J hq1 hj oJ oM h11 hB
      have emod : irem (j : Int) 4 = ((j % 4 : Nat) : Int) := by rw [irem_eq (by omega) (by omega) (by omega) (by omega)]; omega
      have esh : w32 (24 - w32 (8 * irem (j : Int) 4)) = ((24 - 8 * (j % 4) : Nat) : Int) := by
        rw [emod, w32_id (x := 8 * ((j % 4 : Nat) : Int)) (by omega), w32_id (by omega)]; omega
      have h4 : (24 - 8 * (j % 4)) = 24 ∨ (24 - 8 * (j % 4)) = 16 ∨ (24 - 8 * (j % 4)) = 8 ∨ (24 - 8 * (j % 4)) = 0 := by omega
      have body : ∀ y : Int, InR y → y = wd a b c d e j → LX10_feed_76 G m a b c d e (j : Int) y S J R Q := by
        intro y ry ey
        have by_ := byt_s ry h4
        refine bX10_feed_76 ⟨h.1, ?_⟩
        rw [h.2.1.2.1.2.2.1, h.2.2.1.2.1.2.2.1, h.2.2.2.2.1.2.2.1, h11, esh, show Int.toNat ((s.tn + j : Nat) : Int) = s.tn + j by omega]
        refine ⟨rfl, ⟨by omega, by omega⟩, by_.2, fun J2 f2 => fun J3 f3 => ?_⟩
        have g11 : J2 m 11 = ((s.tn + j : Nat) : Int) := by rw [u_n f2 (by omega)]; exact h11
        rw [g11, add1 (by omega)] at f3
        rw [add1 (n := j) (by omega)]
        refine ih (j + 1) J3 (by omega) (by omega) (fun x x1 x2 => by rw [u_n f3 x1, u_n f2 x2]; exact oJ x x1 x2) (fun x hx => by rw [u_o f3 hx, u_n f2 (by omega)]; exact oM x hx) (by rw [u_s f3]; rfl) (fun i hi => ?_)
        rw [u_n f3 (by omega)]
        by_cases hij : i = s.tn + j
        · rw [hij, u_s f2, by_.1]
          unfold fdB
          rw [if_neg (by omega), show s.tn + j - s.tn = j by omega, ey]
        · rw [u_o f2 hij]; exact hB i (by omega)
      refine bX10_feed_23 (br_f (by omega) ⟨fun z4 => ⟨fun z8 => ⟨fun z12 => ⟨fun z16 => body e re ?_, fun z16 => body d rd ?_⟩, fun z12 => body c rc ?_⟩, fun z8 => body b rb ?_⟩, fun z4 => body a ra ?_⟩)
      · unfold wd; rw [if_neg (by omega), if_neg (by omega), if_neg (by omega), if_neg (by omega)]
      · unfold wd; rw [if_neg (by omega), if_neg (by omega), if_neg (by omega), if_pos (by omega)]
      · unfold wd; rw [if_neg (by omega), if_neg (by omega), if_pos (by omega)]
      · unfold wd; rw [if_neg (by omega), if_pos (by omega)]
      · unfold wd; rw [if_pos (by omega)]
  refine loop 20 0 I2 rfl (by omega) (fun _ _ _ => rfl) (fun _ _ => rfl) t2.1 (fun i hi => ?_)
  have hi2 : i < s.tn := hi
  rw [t2.2 i hi2]
  unfold fdB
  rw [if_pos hi2]
theorem notNought_spec (h : RfS S R m) (hs : MsOK s) (hv : RefV I m s) (hq : Q S I R (hld s.f 255 8)) : CI G MX10_notNought [vR m] S I R Q := by
  have b255 : ∀ k : Nat, k < 8 → bitI 255 k = 1 := by decide
  have loop : ∀ (q k : Nat), 8 - k = q → k ≤ 8 → LX10_notNought_4 G m (hld s.f 255 k) (k : Int) S I R Q := by
    intro q
    induction q with
    | zero =>
      intro k hq1 hk
      have ek : k = 8 := by omega
      rw [ek]
      exact bX10_notNought_4 (br_t (by omega) hq)
    | succ q ih =>
      intro k hq1 hk
      have hL := hv.2.2.1 k (by omega)
      refine bX10_notNought_4 (br_f (by omega) ⟨h.1, ?_⟩)
      rw [h.2.1.1.2.1, h.2.2.1.1.2.1, h.2.2.2.1.2.1, show Int.toNat (k : Int) = k by omega, hL.1, add1 (by omega), ior_hld (by omega) (hld_r s.f 255 k)]
      have nx := ih (k + 1) (by omega) (by omega)
      rw [hld] at nx
      refine ⟨rfl, ⟨by omega, by omega⟩, fun c => ?_, fun c => ?_⟩
      · rw [if_neg (fun z => z.2 (List.eq_nil_of_length_eq_zero (by omega))), Int.add_zero] at nx
        exact nx
      · rw [if_pos ⟨b255 k (by omega), fun z => c (by rw [z]; exact Int.le_refl _)⟩] at nx
        exact nx
  exact bX10_notNought (loop 8 0 rfl (by omega))
theorem ref_look (h : RfS S R m) (hs : MsOK s) (hv : RefV I m s) {x1 : Int} (hq : ∀ I' x, offS I I' m → lookA s (hld s.f 255 8) x1 x → Q S I' R x) : CI G MX10_look [vR m, vI x1] S I R Q := by
  refine bX10_look ⟨h.1, fun I2 e2 => ?_⟩
  have o2 : offS I I2 m := offS.u e2 (Or.inl rfl)
  have hv2 := hv.oS hs o2
  unfold lookA at hq
  refine ⟨fun z0 => hq I2 _ o2 (by rw [if_pos z0]; exact hv2.1.1), fun z0 => ⟨fun z1 => hq I2 _ o2 (by rw [if_neg z0, if_pos z1]; exact hv2.2.1.1), fun z1 => ⟨fun z2 => ?_, fun z2 => ⟨fun z3 => ?_, fun z3 => ⟨fun z4 => ?_, fun z4 => ⟨fun z5 => ⟨⟨h.1, trivial⟩, hq I2 _ o2 (by rw [if_neg z0, if_neg z1, if_neg z2, if_neg z3, if_neg z4, if_pos z5]; exact v10bound hv2.1)⟩, fun z5 => ⟨fun z6 => notNought_spec h hs hv2 (hq I2 _ o2 (by rw [if_neg z0, if_neg z1, if_neg z2, if_neg z3, if_neg z4, if_neg z5, if_pos z6])), fun z6 => ⟨fun z7 => hq I2 _ o2 (by rw [if_neg z0, if_neg z1, if_neg z2, if_neg z3, if_neg z4, if_neg z5, if_neg z6, if_pos z7]; exact hv2.2.2.2.1.1), fun z7 => ?_⟩⟩⟩⟩⟩⟩⟩⟩
  · rw [h.2.1.1.1, h.2.2.1.1.1, h.2.2.2.1.1, z2, show w32 (2 - 2) = 0 by decide]
    exact ⟨rfl, by omega, hq I2 _ o2 (by rw [if_neg z0, if_neg z1, if_pos z2]; exact hv2.1.2.2.1 0 (by omega))⟩
  · rw [h.2.1.1.1, h.2.2.1.1.1, h.2.2.2.1.1, z3, show w32 (3 - 2) = 1 by decide]
    exact ⟨rfl, by omega, hq I2 _ o2 (by rw [if_neg z0, if_neg z1, if_neg z2, if_pos z3]; exact hv2.1.2.2.1 1 (by omega))⟩
  · rw [h.2.1.1.1, h.2.2.1.1.1, h.2.2.2.1.1, z4, show w32 (4 - 2) = 2 by decide]
    exact ⟨rfl, by omega, hq I2 _ o2 (by rw [if_neg z0, if_neg z1, if_neg z2, if_neg z3, if_pos z4]; exact hv2.1.2.2.1 2 (by omega))⟩
  · rw [if_neg z0, if_neg z1, if_neg z2, if_neg z3, if_neg z4, if_neg z5, if_neg z6, if_neg z7] at hq
    have hd := hv2.2.2.2.2.2.2
    revert hd hq
    generalize s.dv = dv
    intro hq hd
    cases dv with
    | none =>
      have h20 : I2 m 20 = 0 := hd
      rw [h20]
      refine ⟨fun z8 => ⟨fun _ => hq I2 _ o2 (if_pos z8).symm, fun z => absurd rfl z⟩, fun z8 => ⟨fun z9 => ⟨fun _ => hq I2 _ o2 (if_neg z8).symm, fun z => absurd rfl z⟩, fun z9 => ⟨fun z10 => hq I2 _ o2 (if_neg z8).symm, fun z10 => ⟨fun _ => hq I2 _ o2 (if_neg z8).symm, fun z => absurd rfl z⟩⟩⟩⟩
    | some x =>
      obtain ⟨st, a, d⟩ := x
      have h2 : I2 m 20 = 1 ∧ I2 m 21 = st ∧ I2 m 22 = (a : Int) ∧ DvH I2 m st d := hd
      have hq2 : ∀ (I' : MI) (x : Int), offS I I' m → x = (if x1 = 8 then 1 else if x1 = 9 then st else if x1 = 10 then (a : Int) else -1) → Q S I' R x := hq
      rw [h2.1, h2.2.1, h2.2.2.1]
      refine ⟨fun z8 => ⟨fun z => absurd z (by decide), fun _ => hq2 I2 _ o2 (if_pos z8).symm⟩, fun z8 => ⟨fun z9 => ⟨fun z => absurd z (by decide), fun _ => hq2 I2 _ o2 (by rw [if_neg z8, if_pos z9])⟩, fun z9 => ⟨fun z10 => hq2 I2 _ o2 (by rw [if_neg z8, if_neg z9, if_neg z10]), fun z10 => ⟨fun z => absurd z (by decide), fun _ => hq2 I2 _ o2 (by rw [if_neg z8, if_neg z9, if_pos (Decidable.not_not.mp z10)])⟩⟩⟩⟩
end RB2
