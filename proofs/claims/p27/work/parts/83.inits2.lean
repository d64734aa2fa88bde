/-! ===== objects made: a division, an ideal, a ring ===== -/
theorem EqS.gr {S S' : Sh} {I I' : MI} {R R' : MR} {e c : Nat} (h : EqS S R e) (g : grw S I R S' I' R' c) (hc : e + 31 < c) : EqS S' R' e := by
  refine ⟨(g e (by omega)).1.trans h.1, ?_, h.2.2.1.gr g (by omega), h.2.2.2.1.gr g (by omega), ?_, fun k hk => ⟨?_, (h.2.2.2.2.2 k hk).2.gr g (by omega)⟩⟩
  · rw [(g e (by omega)).2.2.2]; exact h.2.1
  · rw [(g (e + 7) (by omega)).1, (g (e + 7) (by omega)).2.1]; exact h.2.2.2.2.1
  · rw [(g (e + 7) (by omega)).2.2.2]; exact (h.2.2.2.2.2 k hk).1
theorem EqS.R {S : Sh} {R R' : MR} {e : Nat} (h : EqS S R e) (ho : ∀ b, e ≤ b → b ≤ e + 31 → R' b = R b) : EqS S R' e := by
  have pg : ∀ {a}, PolyS S R a 60 → e ≤ a → a ≤ e + 31 → PolyS S R' a 60 := fun hp h1 h2 => by unfold PolyS; rw [ho _ h1 h2]; exact hp
  refine ⟨h.1, by rw [ho e (by omega) (by omega)]; exact h.2.1, pg h.2.2.1 (by omega) (by omega), pg h.2.2.2.1 (by omega) (by omega), h.2.2.2.2.1, fun k hk => ⟨by rw [ho (e + 7) (by omega) (by omega)]; exact (h.2.2.2.2.2 k hk).1, pg (h.2.2.2.2.2 k hk).2 (by omega) (by omega)⟩⟩
theorem EqS.mv {S S' : Sh} {R R' : MR} {e : Nat} (h : EqS S R e) (hm : ∀ b, e ≤ b → b ≤ e + 31 → sT S' b = sT S b ∧ sL S' b = sL S b ∧ R' b = R b) : EqS S' R' e := by
  have pg : ∀ (a : Nat), e ≤ a → a + 2 ≤ e + 31 → PolyS S R a 60 → PolyS S' R' a 60 := fun a h3 h4 hp => by
    unfold PolyS
    rw [(hm a h3 (by omega)).1, (hm a h3 (by omega)).2.2, (hm (a + 1) (by omega) (by omega)).1, (hm (a + 2) (by omega) h4).1, (hm (a + 1) (by omega) (by omega)).2.1, (hm (a + 2) (by omega) h4).2.1]; exact hp
  have h0 := hm e (by omega) (by omega)
  have h7 := hm (e + 7) (by omega) (by omega)
  exact ⟨h0.1.trans h.1, by rw [h0.2.2]; exact h.2.1, pg _ (by omega) (by omega) h.2.2.1, pg _ (by omega) (by omega) h.2.2.2.1, by rw [h7.1, h7.2.1]; exact h.2.2.2.2.1, fun k hk => ⟨by rw [h7.2.2]; exact (h.2.2.2.2.2 k hk).1, pg _ (by omega) (by omega) (h.2.2.2.2.2 k hk).2⟩⟩
theorem n1303 (a x : Nat) : a + x + 3 + 1300 = a + (x + 1303) := by omega
section INI2
variable {G : Gl} {S : Sh} {I : MI} {R : MR}
/-- the divisors' equations -/
theorem divLoop {Q : Sh → MI → MR → Prop} {d : Nat} (hn : sN S = d + 107) (ht : sT S d = 1) (hf : R d 5 = d + 1 ∧ R d 6 = d + 2 ∧ R d 7 = d + 43 ∧ R d 8 = d + 75) (ha : sT S (d + 1) = 25 ∧ sL S (d + 1) = 20) (hr : sT S (d + 2) = 27 ∧ sL S (d + 2) = 40) (hr2 : ∀ i, i < 40 → R (d + 2) i = d + 3 + i ∧ sT S (d + 3 + i) = 21 ∧ sL S (d + 3 + i) = 5) (e1 : EqS S R (d + 43)) (e2 : EqS S R (d + 75))
    (hq : ∀ S' I' R', sN S' = d + 747 → sU S' ≤ sU S + 26060 → grw S I R S' I' R' (d + 1) → DivS S' R' d (d + 43) (d + 75) → Q S' I' R') : LX0_init_48 G d 0 S I R Q := by
  have loop : ∀ (q k : Nat) (S2 : Sh) (I2 : MI) (R2 : MR), 20 - k = q → k ≤ 20 → sN S2 = d + 107 + 32 * k → sU S2 ≤ sU S + 1303 * k → grw S I R S2 I2 R2 (d + 1) → (∀ b, d + 2 ≤ b → b < d + 107 → sT S2 b = sT S b ∧ sL S2 b = sL S b ∧ R2 b = R b) → (sT S2 (d + 1) = 25 ∧ sL S2 (d + 1) = 20) → (∀ i, i < k → R2 (d + 1) i = d + 107 + 32 * i ∧ EqS S2 R2 (d + 107 + 32 * i)) → LX0_init_48 G d (k : Int) S2 I2 R2 Q := by
    intro q
    induction q with
    | zero =>
      intro k S2 I2 R2 hq1 hk hN hU hg hm ha2 he
      have ek : k = 20 := by omega
      rw [ek] at hN hU he
      have gd := hg d (by omega)
      refine bX0_init_48 (br_t (by omega) (hq S2 I2 R2 (by omega) (by omega) hg ⟨gd.1.trans ht, by rw [gd.2.2.2]; exact hf, Or.inl ⟨rfl, rfl⟩, ⟨ha2.1, ha2.2, ?_, ?_⟩, fun i hi => ⟨?_, ?_, ?_⟩, ⟨e1.mv (fun b h1 h2 => hm b (by omega) (by omega)), e2.mv (fun b h1 h2 => hm b (by omega) (by omega))⟩, he⟩))
      · rw [(hm (d + 2) (by omega) (by omega)).1]; exact hr.1
      · rw [(hm (d + 2) (by omega) (by omega)).2.1]; exact hr.2
      · rw [(hm (d + 2) (by omega) (by omega)).2.2]; exact (hr2 i hi).1
      · rw [(hm (d + 3 + i) (by omega) (by omega)).1]; exact (hr2 i hi).2.1
      · rw [(hm (d + 3 + i) (by omega) (by omega)).2.1]; exact (hr2 i hi).2.2
    | succ q ih =>
      intro k S2 I2 R2 hq1 hk hN hU hg hm ha2 he
      have gd := hg d (by omega)
      have rd5 : R2 d 5 = d + 1 := by rw [gd.2.2.2]; exact hf.1
      refine bX0_init_48 (br_f (by omega) ⟨gd.1.trans ht, fun S3 I3 R3 eS3 eI3 eR3 => ?_⟩)
      rw [hN, rd5]
      have g3 : grw S2 I2 R2 S3 I3 R3 (d + 107 + 32 * k) := by rw [eS3, eI3, eR3]; exact grw.new (by omega)
      have t3 : sT S3 (d + 107 + 32 * k) = 2 := by rw [eS3, ← hN]; exact nw_t
      have u3 : sU S3 = sU S2 + 3 := by rw [eS3, sU_new]
      have n3 : sN S3 = d + 107 + 32 * k + 1 := by rw [eS3, sN_new, hN]
      clear eS3 eI3 eR3
      refine ⟨by rw [t3]; decide, equInit t3 n3 (fun S4 I4 R4 n4 u4 g4 q4 => ?_)⟩
      have c4 := g3.tr g4
      have uu : sU S4 ≤ sU S + 1303 * (k + 1) := by
        have a1 : sU S4 ≤ sU S + 1303 * k + 3 + 1300 := Nat.le_trans u4 (by rw [u3]; exact Nat.add_le_add_right (Nat.add_le_add_right hU 3) 1300)
        rw [Nat.mul_succ]
        rw [← n1303]
        exact a1
      have c1 := c4 (d + 1) (by omega)
      rw [c1.1, c1.2.1, ha2.1, ha2.2, show Int.toNat (k : Int) = k by omega, add1 (n := k) (by omega)]
      refine ⟨rfl, ⟨by omega, by omega⟩, q4.1, fun R5 e5 => ?_⟩
      have Ro5 : ∀ b, b ≠ d + 1 → R5 b = R4 b := fun b hb => by rw [e5]; exact up2_n hb
      refine ih (k + 1) S4 I4 R5 (by omega) (by omega) (by omega) uu (hg.tr ((c4.wk (by omega)).tr (grw.upR e5 (Nat.le_refl _)))) (fun b h1 h2 => ?_) ⟨c1.1.trans ha2.1, c1.2.1.trans ha2.2⟩ (fun i hi => ?_)
      · have c := c4 b (by omega)
        have hb := hm b h1 h2
        exact ⟨c.1.trans hb.1, c.2.1.trans hb.2.1, (Ro5 b (by omega)).trans (c.2.2.2.trans hb.2.2)⟩
      · by_cases ei : i = k
        · rw [ei]
          exact ⟨by rw [e5, up2_ss], q4.R (fun b h1 _ => Ro5 b (by omega))⟩
        · have hi2 := he i (by omega)
          exact ⟨by rw [e5, up2_sn ei, c1.2.2.2]; exact hi2.1, (hi2.2.gr c4 (by omega)).R (fun b h1 _ => Ro5 b (by omega))⟩
  exact loop 20 0 S I R rfl (by omega) (by omega) (by omega) grw.rf (fun b _ _ => ⟨rfl, rfl, rfl⟩) ha (fun i hi => absurd hi (Nat.not_lt_zero _))
theorem divInit {Q : Sh → MI → MR → Prop} {d : Nat} (ht : sT S d = 1) (hn : sN S = d + 1) (hz : I d = fun _ => 0)
    (hq : ∀ S' I' R', sN S' = d + 747 → sU S' ≤ sU S + 30000 → grw S I R S' I' R' d → I' d = (fun _ => 0) → DivS S' R' d (d + 43) (d + 75) → Q S' I' R') : CV G MX0_init [vR d] S I R Q := by
  refine bX0_init ⟨by rw [ht]; decide, fun S1 I1 R1 eS eI eR => ?_⟩
  rw [hn]
  have g1 : grw S I R S1 I1 R1 (d + 1) := by rw [eS, eI, eR]; exact grw.new (by omega)
  have n1 : sN S1 = d + 2 := by rw [eS, sN_new]; omega
  have t1 : sT S1 d = 1 := (g1 d (by omega)).1.trans ht
  have ta : sT S1 (d + 1) = 25 ∧ sL S1 (d + 1) = 20 := by rw [eS, ← hn]; exact ⟨nw_t, nw_l⟩
  have u1 : sU S1 = sU S + 20 := by rw [eS, sU_new]
  refine ⟨t1, fun R2 e2 => fun S3 I3 R3 eS3 eI3 eR3 => ?_⟩
  rw [n1]
  have g3 : grw S1 I1 R2 S3 I3 R3 (d + 2) := by rw [eS3, eI3, eR3]; exact grw.mul (by omega)
  have n3 : sN S3 = d + 43 := by rw [eS3, sN_mul]; omega
  have t3 : sT S3 d = 1 := (g3 d (by omega)).1.trans t1
  have u3 : sU S3 = sU S1 + 240 := by rw [eS3, sU_mul]
  have rws0 : sT S3 (d + 2) = 27 ∧ sL S3 (d + 2) = 40 := ⟨by rw [eS3, sT_mul, if_pos (by omega)], by rw [eS3, sL_mul, if_pos (by omega)]⟩
  have rws : ∀ i, i < 40 → R3 (d + 2) i = d + 3 + i ∧ sT S3 (d + 3 + i) = 21 ∧ sL S3 (d + 3 + i) = 5 := by
    refine fun i hi => ⟨?_, ?_, ?_⟩
    · rw [eR3, n1]; unfold rMul; rw [if_pos rfl, if_pos hi]
    · rw [eS3, sT_mul, if_neg (by omega), if_pos (by omega)]
    · rw [eS3, sL_mul, if_neg (by omega), if_pos (by omega)]
  clear eS eI eR eS3 eI3 eR3
  refine ⟨t3, fun R4 e4 => fun S5 I5 R5 eS5 eI5 eR5 => ?_⟩
  rw [n3]
  have g5 : grw S3 I3 R4 S5 I5 R5 (d + 43) := by rw [eS5, eI5, eR5]; exact grw.new (by omega)
  have t5 : sT S5 (d + 43) = 2 := by rw [eS5, ← n3]; exact nw_t
  have n5 : sN S5 = d + 44 := by rw [eS5, sN_new]; omega
  have u5 : sU S5 = sU S3 + 3 := by rw [eS5, sU_new]
  refine ⟨by rw [t5]; decide, equInit t5 n5 (fun S6 I6 R6 n6 u6 g6 q6 => ?_)⟩
  have c6 := g5.tr g6
  have n6' : sN S6 = d + 75 := by omega
  have t6 : sT S6 d = 1 := (c6 d (by omega)).1.trans t3
  clear eS5 eI5 eR5
  refine ⟨t6, fun R7 e7 => fun S8 I8 R8 eS8 eI8 eR8 => ?_⟩
  rw [n6']
  have g8 : grw S6 I6 R7 S8 I8 R8 (d + 75) := by rw [eS8, eI8, eR8]; exact grw.new (by omega)
  have t8 : sT S8 (d + 75) = 2 := by rw [eS8, ← n6']; exact nw_t
  have n8 : sN S8 = d + 76 := by rw [eS8, sN_new]; omega
  have u8 : sU S8 = sU S6 + 3 := by rw [eS8, sU_new]
  refine ⟨by rw [t8]; decide, equInit t8 n8 (fun S9 I9 R9 n9 u9 g9 q9 => ?_)⟩
  have c9 := g8.tr g9
  have t9 : sT S9 d = 1 := (c9 d (by omega)).1.trans t6
  clear eS8 eI8 eR8
  refine ⟨t9, fun R10 e10 => ?_⟩
  have Ro : ∀ {R' R : MR} {k v : Nat}, R' = up2 R d k v → ∀ b, b ≠ d → R' b = R b := fun e b hb => by rw [e]; exact up2_n hb
  have d3 := g3 d (by omega)
  have d6 := c6 d (by omega)
  have d9 := c9 d (by omega)
  have f5 : R10 d 5 = d + 1 := by rw [e10, up2_sn (by decide), d9.2.2.2, e7, up2_sn (by decide), d6.2.2.2, e4, up2_sn (by decide), d3.2.2.2, e2, up2_ss]
  have f6 : R10 d 6 = d + 2 := by rw [e10, up2_sn (by decide), d9.2.2.2, e7, up2_sn (by decide), d6.2.2.2, e4, up2_ss]
  have f7 : R10 d 7 = d + 43 := by rw [e10, up2_sn (by decide), d9.2.2.2, e7, up2_ss]
  have f8 : R10 d 8 = d + 75 := by rw [e10, up2_ss]
  have tt : ∀ b, b < d + 43 → sT S9 b = sT S3 b ∧ sL S9 b = sL S3 b := fun b hb => ⟨(c9 b (by omega)).1.trans (c6 b (by omega)).1, (c9 b (by omega)).2.1.trans (c6 b (by omega)).2.1⟩
  refine divLoop (by omega) t9 ⟨f5, f6, f7, f8⟩ ?_ ?_ (fun i hi => ⟨?_, ?_, ?_⟩) (((q6.R (R' := R7) (fun b h1 _ => Ro e7 b (by omega))).gr c9 (by omega)).R (fun b h1 _ => Ro e10 b (by omega))) (q9.R (fun b h1 _ => Ro e10 b (by omega))) (fun S' I' R' a1 a2 a3 a4 => hq S' I' R' a1 (by omega) ?_ ?_ a4)
  · rw [(tt (d + 1) (by omega)).1, (tt (d + 1) (by omega)).2, (g3 (d + 1) (by omega)).1, (g3 (d + 1) (by omega)).2.1]; exact ta
  · rw [(tt (d + 2) (by omega)).1, (tt (d + 2) (by omega)).2]; exact rws0
  · rw [Ro e10 _ (by omega), (c9 (d + 2) (by omega)).2.2.2, Ro e7 _ (by omega), (c6 (d + 2) (by omega)).2.2.2, Ro e4 _ (by omega)]
    exact (rws i hi).1
  · rw [(tt (d + 3 + i) (by omega)).1]; exact (rws i hi).2.1
  · rw [(tt (d + 3 + i) (by omega)).2]; exact (rws i hi).2.2
  · exact (((g1.wk (by omega)).tr (grw.upR e2 (Nat.le_refl _))).tr (((g3.wk (by omega)).tr (grw.upR e4 (Nat.le_refl _))).tr ((c6.wk (by omega)).tr (grw.upR e7 (Nat.le_refl _))))).tr (((c9.wk (by omega)).tr (grw.upR e10 (Nat.le_refl _))).tr (a3.wk (by omega)))
  · rw [(a3 d (by omega)).2.2.1, d9.2.2.1, d6.2.2.1, d3.2.2.1, (g1 d (by omega)).2.2.1]; exact hz
theorem idealInit {Q : Sh → MI → MR → Prop} {i : Nat} (ht : sT S i = 3) (hn : sN S = i + 1)
    (hq : ∀ S' I' R', sN S' = i + 124 → sU S' ≤ sU S + 15000 → grw S I R S' I' R' i → IdS S' R' i → I' i 0 = -1 → IdZ I' i → Q S' I' R') : CV G MX2_init [vR i] S I R Q := by
  refine bX2_init ⟨by rw [ht]; decide, ht, fun I0 e0 => fun S1 I1 R1 eS eI eR => ?_⟩
  rw [hn]
  have g1 : ∀ a, a ≤ i + 1 → grw S I0 R S1 I1 R1 a := fun a ha => by rw [eS, eI, eR]; exact grw.mul (by omega)
  have n1 : sN S1 = i + 122 := by rw [eS, sN_mul]; omega
  have t1 : sT S1 i = 3 := (g1 _ (Nat.le_refl _) i (by omega)).1.trans ht
  refine ⟨t1, fun R2 e2 => fun S3 I3 R3 eS3 eI3 eR3 => ?_⟩
  rw [n1]
  have g3 : ∀ a, a ≤ i + 122 → grw S1 I1 R2 S3 I3 R3 a := fun a ha => by rw [eS3, eI3, eR3]; exact grw.new (by omega)
  have n3 : sN S3 = i + 123 := by rw [eS3, sN_new]; omega
  have t3 : sT S3 i = 3 := (g3 _ (Nat.le_refl _) i (by omega)).1.trans t1
  refine ⟨t3, fun R4 e4 => fun S5 I5 R5 eS5 eI5 eR5 => ?_⟩
  rw [n3]
  have g5 : ∀ a, a ≤ i + 123 → grw S3 I3 R4 S5 I5 R5 a := fun a ha => by rw [eS5, eI5, eR5]; exact grw.new (by omega)
  have n5 : sN S5 = i + 124 := by rw [eS5, sN_new]; omega
  have t5 : sT S5 i = 3 := (g5 _ (Nat.le_refl _) i (by omega)).1.trans t3
  refine ⟨t5, fun R6 e6 => ?_⟩
  have Ro : ∀ {R' R : MR} {k v : Nat}, R' = up2 R i k v → ∀ b, b ≠ i → R' b = R b := fun e b hb => by rw [e]; exact up2_n hb
  have lo : ∀ b, b < i + 122 → sT S5 b = sT S1 b ∧ sL S5 b = sL S1 b ∧ I5 b = I1 b := fun b hb => ⟨(g5 _ (Nat.le_refl _) b (by omega)).1.trans (g3 _ (Nat.le_refl _) b (by omega)).1, (g5 _ (Nat.le_refl _) b (by omega)).2.1.trans (g3 _ (Nat.le_refl _) b (by omega)).2.1, (g5 _ (Nat.le_refl _) b (by omega)).2.2.1.trans (g3 _ (Nat.le_refl _) b (by omega)).2.2.1⟩
  refine hq S5 I5 R6 n5 ?_ ?_ ⟨t5, ⟨?_, ?_, ?_⟩, ⟨?_, ?_⟩, fun c hc => ⟨?_, ?_, ?_⟩, ⟨?_, ?_⟩, ?_, ?_⟩ ?_ (fun l c hl hc => ?_)
  · have u1 : sU S1 = sU S + (120 + 120 * 120) := by rw [eS, sU_mul]
    have u3 : sU S3 = sU S1 + 120 := by rw [eS3, sU_new]
    have u5 : sU S5 = sU S3 + 120 := by rw [eS5, sU_new]
    omega
  · exact ((((grw.upI e0 (Nat.le_refl _)).tr (g1 i (by omega))).tr (grw.upR e2 (Nat.le_refl _))).tr (((g3 i (by omega)).tr (grw.upR e4 (Nat.le_refl _))).tr ((g5 i (by omega)).tr (grw.upR e6 (Nat.le_refl _)))))
  · rw [e6, up2_sn (by decide), (g5 _ (Nat.le_refl _) i (by omega)).2.2.2, e4, up2_sn (by decide), (g3 _ (Nat.le_refl _) i (by omega)).2.2.2, e2, up2_ss]
  · rw [e6, up2_sn (by decide), (g5 _ (Nat.le_refl _) i (by omega)).2.2.2, e4, up2_ss]
  · rw [e6, up2_ss]
  · rw [(lo (i + 1) (by omega)).1, eS, sT_mul, if_pos (by omega)]
  · rw [(lo (i + 1) (by omega)).2.1, eS, sL_mul, if_pos (by omega)]
  · rw [Ro e6 _ (by omega), (g5 _ (Nat.le_refl _) (i + 1) (by omega)).2.2.2, Ro e4 _ (by omega), (g3 _ (Nat.le_refl _) (i + 1) (by omega)).2.2.2, Ro e2 _ (by omega), eR, hn]
    unfold rMul
    rw [if_pos rfl, if_pos hc]
  · rw [(lo (i + 2 + c) (by omega)).1, eS, sT_mul, if_neg (by omega), if_pos (by omega)]
  · rw [(lo (i + 2 + c) (by omega)).2.1, eS, sL_mul, if_neg (by omega), if_pos (by omega)]
  · rw [(g5 _ (Nat.le_refl _) (i + 122) (by omega)).1, eS3, ← n1]; exact nw_t
  · rw [(g5 _ (Nat.le_refl _) (i + 122) (by omega)).2.1, eS3, ← n1]; exact nw_l
  · rw [eS5, ← n3]; exact nw_t
  · rw [eS5, ← n3]; exact nw_l
  · rw [(lo i (by omega)).2.2, (g1 _ (Nat.le_refl _) i (by omega)).2.2.1, e0, up2_ss]
  · rw [(lo (i + 2 + l) (by omega)).2.2, eI]
    unfold iMul
    rw [if_pos (by omega)]
end INI2

