/-! ===== objects made: ring, tape, text ===== -/
theorem n120 (a : Nat) : a + 3 + 300 + 18000 + 54000 + 4000 + 12000 + 200 + 3 + 2000 + 200 + 3000 + 14400 + 120 + 120 ≤ a + 120000 := by omega
section INI3
variable {G : Gl} {S : Sh} {I : MI} {R : MR}
theorem numInit {Q : Sh → MI → MR → Prop} {a : Nat} {p : Int} (ht : sT S a = 4) (hp : 2 ≤ p ∧ p ≤ 32749) (hq : ∀ I', (∀ b, b ≠ a → I' b = I b) → NumS S I' a p → Q S I' R) : CV G MX4_init [vR a, vI p] S I R Q :=
  bX4_init ⟨by rw [ht]; decide, ht, fun I' e => hq I' (fun b hb => by rw [e]; exact up2_n hb) ⟨ht, by rw [e, up2_ss]; omega, hp⟩⟩
theorem ringInit {Q : Sh → MI → MR → Prop} {r : Nat} (ht : sT S r = 6) (hn : sN S = r + 1)
    (hq : ∀ S' I' R', sN S' = r + 9 → sU S' ≤ sU S + 1000 → grw S I R S' I' R' r → RingL S' R' r → R' r 1 = r + 1 → NumS S' I' (r + 1) 32003 → RingT I' r 2 (fun _ => 1) → Q S' I' R') : CV G MX6_init [vR r] S I R Q := by
  refine bX6_init ⟨by rw [ht]; decide, ht, fun I0 e0 => fun S1 I1 R1 eS eI eR => ?_⟩
  rw [hn]
  have g1 : grw S I0 R S1 I1 R1 (r + 1) := by rw [eS, eI, eR]; exact grw.new (by omega)
  have n1 : sN S1 = r + 2 := by rw [eS, sN_new, hn]
  have u1 : sU S1 = sU S + 1 := by rw [eS, sU_new]
  have t1 : sT S1 (r + 1) = 4 := by rw [eS, ← hn]; exact nw_t
  have tr1 : sT S1 r = 6 := (g1 r (by omega)).1.trans ht
  clear eS eI eR
  refine ⟨by rw [t1]; decide, numInit t1 ⟨by decide, by decide⟩ (fun I2 o2 nm2 => ⟨tr1, fun R3 e3 => fun S4 I4 R4 eS4 eI4 eR4 => ?_⟩)⟩
  rw [n1]
  have g4 : grw S1 I2 R3 S4 I4 R4 (r + 2) := by rw [eS4, eI4, eR4]; exact grw.new (by omega)
  have n4 : sN S4 = r + 3 := by rw [eS4, sN_new, n1]
  have u4 : sU S4 = sU S1 + 3 := by rw [eS4, sU_new]
  have w4 : sT S4 (r + 2) = 21 ∧ sL S4 (r + 2) = 3 := by rw [eS4, ← n1]; exact ⟨nw_t, nw_l⟩
  have tr4 : sT S4 r = 6 := (g4 r (by omega)).1.trans tr1
  clear eS4 eI4 eR4
  refine ⟨tr4, fun R5 e5 => fun S6 I6 R6 eS6 eI6 eR6 => ?_⟩
  rw [n4]
  have g6 : grw S4 I4 R5 S6 I6 R6 (r + 3) := by rw [eS6, eI6, eR6]; exact grw.new (by omega)
  have n6 : sN S6 = r + 4 := by rw [eS6, sN_new, n4]
  have u6 : sU S6 = sU S4 + 165 := by rw [eS6, sU_new]
  have w6 : sT S6 (r + 3) = 21 ∧ sL S6 (r + 3) = 165 := by rw [eS6, ← n4]; exact ⟨nw_t, nw_l⟩
  have tr6 : sT S6 r = 6 := (g6 r (by omega)).1.trans tr4
  clear eS6 eI6 eR6
  refine ⟨tr6, fun R7 e7 => fun S8 I8 R8 eS8 eI8 eR8 => ?_⟩
  rw [n6]
  have g8 : grw S6 I6 R7 S8 I8 R8 (r + 4) := by rw [eS8, eI8, eR8]; exact grw.new (by omega)
  have n8 : sN S8 = r + 5 := by rw [eS8, sN_new, n6]
  have u8 : sU S8 = sU S6 + 26 := by rw [eS8, sU_new]
  have w8 : sT S8 (r + 4) = 21 ∧ sL S8 (r + 4) = 26 := by rw [eS8, ← n6]; exact ⟨nw_t, nw_l⟩
  have tr8 : sT S8 r = 6 := (g8 r (by omega)).1.trans tr6
  clear eS8 eI8 eR8
  refine ⟨tr8, fun R9 e9 => fun S10 I10 R10 eS10 eI10 eR10 => ?_⟩
  rw [n8]
  have g10 : grw S8 I8 R9 S10 I10 R10 (r + 5) := by rw [eS10, eI10, eR10]; exact grw.mul (by omega)
  have n10 : sN S10 = r + 9 := by rw [eS10, sN_mul, n8]
  have u10 : sU S10 = sU S8 + (3 + 3 * 120) := by rw [eS10, sU_mul]
  have tr10 : sT S10 r = 6 := (g10 r (by omega)).1.trans tr8
  have nx : (sT S10 (r + 5) = 27 ∧ sL S10 (r + 5) = 3) ∧ ∀ i, i < 3 → R10 (r + 5) i = r + 6 + i ∧ sT S10 (r + 6 + i) = 21 ∧ sL S10 (r + 6 + i) = 120 := by
    refine ⟨⟨by rw [eS10, sT_mul, if_pos n8.symm], by rw [eS10, sL_mul, if_pos n8.symm]⟩, fun i hi => ⟨?_, ?_, ?_⟩⟩
    · rw [eR10, n8]; unfold rMul; rw [if_pos rfl, if_pos hi]
    · rw [eS10, sT_mul, if_neg (by omega), if_pos (by omega)]
    · rw [eS10, sL_mul, if_neg (by omega), if_pos (by omega)]
  clear eS10 eI10 eR10
  refine ⟨tr10, fun R11 e11 => ?_⟩
  have Ro : ∀ {R' R : MR} {k v : Nat}, R' = up2 R r k v → ∀ b, b ≠ r → R' b = R b := fun e b hb => by rw [e]; exact up2_n hb
  have d4 := g4 r (by omega)
  have d6 := g6 r (by omega)
  have d8 := g8 r (by omega)
  have d10 := g10 r (by omega)
  have rl : RingL S10 R11 r := by
    refine ⟨tr10, ⟨?_, ?_, ?_, ?_⟩, ⟨?_, ?_, ?_, nx.1.1⟩, ⟨?_, ?_, ?_, nx.1.2⟩, fun i hi => ⟨by rw [Ro e11 _ (by omega)]; exact (nx.2 i hi).1, (nx.2 i hi).2⟩⟩
    · rw [e11, up2_sn (by decide), d10.2.2.2, e9, up2_sn (by decide), d8.2.2.2, e7, up2_sn (by decide), d6.2.2.2, e5, up2_ss]
    · rw [e11, up2_sn (by decide), d10.2.2.2, e9, up2_sn (by decide), d8.2.2.2, e7, up2_ss]
    · rw [e11, up2_sn (by decide), d10.2.2.2, e9, up2_ss]
    · rw [e11, up2_ss]
    · rw [(g10 _ (by omega)).1, (g8 _ (by omega)).1, (g6 _ (by omega)).1]; exact w4.1
    · rw [(g10 _ (by omega)).1, (g8 _ (by omega)).1]; exact w6.1
    · rw [(g10 _ (by omega)).1]; exact w8.1
    · rw [(g10 _ (by omega)).2.1, (g8 _ (by omega)).2.1, (g6 _ (by omega)).2.1]; exact w4.2
    · rw [(g10 _ (by omega)).2.1, (g8 _ (by omega)).2.1]; exact w6.2
    · rw [(g10 _ (by omega)).2.1]; exact w8.2
  have r1 : R11 r 1 = r + 1 := by
    rw [e11, up2_sn (by decide), d10.2.2.2, e9, up2_sn (by decide), d8.2.2.2, e7, up2_sn (by decide), d6.2.2.2, e5, up2_sn (by decide), d4.2.2.2, e3, up2_ss]
  have i0 : I10 r 0 = 2 := by
    rw [d10.2.2.1, d8.2.2.1, d6.2.2.1, d4.2.2.1, o2 r (by omega), (g1 r (by omega)).2.2.1, e0, up2_ss]
  have nmT : sT S10 (r + 1) = 4 := by rw [(g10 _ (by omega)).1, (g8 _ (by omega)).1, (g6 _ (by omega)).1, (g4 _ (by omega)).1]; exact t1
  have nmI : I10 (r + 1) 0 = 32003 := by rw [(g10 _ (by omega)).2.2.1, (g8 _ (by omega)).2.2.1, (g6 _ (by omega)).2.2.1, (g4 _ (by omega)).2.2.1]; exact nm2.2.1
  have gAll : grw S I R S10 I10 R11 r := by
    refine ((grw.upI e0 (Nat.le_refl _)).tr (g1.wk (by omega))).tr ?_
    have q2 : grw S1 I1 R1 S1 I2 R1 r := fun b hb => ⟨rfl, rfl, o2 b (by omega), rfl⟩
    exact q2.tr ((grw.upR e3 (Nat.le_refl _)).tr (((g4.wk (by omega)).tr (grw.upR e5 (Nat.le_refl _))).tr (((g6.wk (by omega)).tr (grw.upR e7 (Nat.le_refl _))).tr (((g8.wk (by omega)).tr (grw.upR e9 (Nat.le_refl _))).tr ((g10.wk (by omega)).tr (grw.upR e11 (Nat.le_refl _)))))))
  refine weigh_spec (w := fun _ => 1) (n := 2) rl i0 ⟨by decide, by decide⟩ (fun i _ => (⟨by decide, by decide⟩ : (1 : Int) ≤ 1 ∧ (1 : Int) ≤ 4)) (fun I' o rt => hq S10 I' R11 n10 (by omega) (fun b hb => ?_) rl r1 ⟨nmT, ?_, by decide, by decide⟩ rt)
  · have := gAll b hb
    exact ⟨this.1, this.2.1, (o.1 b (by omega) (Or.inl (by omega))).trans this.2.2.1, this.2.2.2⟩
  · rw [o.1 (r + 1) (by omega) (Or.inl (by omega))]; exact nmI
theorem tapeInit {Q : Sh → MI → MR → Prop} {t : Nat} (ht : sT S t = 7) (hn : sN S = t + 1) (hz : I t = fun _ => 0)
    (hq : ∀ S' I' R', sN S' = t + 6 → sU S' ≤ sU S + 500 → grw S I R S' I' R' t → TpS S' R' t → I' t 1 = 0 → I' t 2 = 0 → I' t 3 = -1 → Q S' I' R') : CV G MX7_init [vR t] S I R Q := by
  refine bX7_init ⟨by rw [ht]; decide, fun S1 I1 R1 eS eI eR => ?_⟩
  rw [hn]
  have g1 : grw S I R S1 I1 R1 (t + 1) := by rw [eS, eI, eR]; exact grw.new (by omega)
  have n1 : sN S1 = t + 2 := by rw [eS, sN_new, hn]
  have u1 : sU S1 = sU S + 200 := by rw [eS, sU_new]
  have b1 : sT S1 (t + 1) = 21 ∧ sL S1 (t + 1) = 200 := by rw [eS, ← hn]; exact ⟨nw_t, nw_l⟩
  have t1 : sT S1 t = 7 := (g1 t (by omega)).1.trans ht
  clear eS eI eR
  refine ⟨t1, fun R2 e2 => fun I2 f2 => fun S3 I3 R3 eS3 eI3 eR3 => ?_⟩
  rw [n1]
  have g3 : grw S1 I2 R2 S3 I3 R3 (t + 2) := by rw [eS3, eI3, eR3]; exact grw.new (by omega)
  have n3 : sN S3 = t + 3 := by rw [eS3, sN_new, n1]
  have u3 : sU S3 = sU S1 + 3 := by rw [eS3, sU_new]
  have t3 : sT S3 (t + 2) = 5 := by rw [eS3, ← n1]; exact nw_t
  have z3 : I3 (t + 2) = fun _ => 0 := by rw [eI3, ← n1]; exact up1_s _ _ _
  clear eS3 eI3 eR3
  refine ⟨by rw [t3]; decide, polyInit (cap := 101) t3 n3 z3 (by omega) (fun S4 I4 R4 n4 u4 g4 p4 h4 => ?_)⟩
  have c4 := g3.tr g4
  have t4 : sT S4 t = 7 := (c4 t (by omega)).1.trans t1
  have n4' : sN S4 = t + 5 := by omega
  refine ⟨t4, fun R5 e5 => fun S6 I6 R6 eS6 eI6 eR6 => ?_⟩
  rw [n4']
  have g6 : grw S4 I4 R5 S6 I6 R6 (t + 5) := by rw [eS6, eI6, eR6]; exact grw.new (by omega)
  have n6 : sN S6 = t + 6 := by rw [eS6, sN_new, n4']
  have u6 : sU S6 = sU S4 + 3 := by rw [eS6, sU_new]
  have b6 : sT S6 (t + 5) = 21 ∧ sL S6 (t + 5) = 3 := by rw [eS6, ← n4']; exact ⟨nw_t, nw_l⟩
  have t6 : sT S6 t = 7 := (g6 t (by omega)).1.trans t4
  clear eS6 eI6 eR6
  refine ⟨t6, fun R7 e7 => ?_⟩
  have Ro : ∀ {R' R : MR} {k v : Nat}, R' = up2 R t k v → ∀ b, b ≠ t → R' b = R b := fun e b hb => by rw [e]; exact up2_n hb
  have d4 := c4 t (by omega)
  have d6 := g6 t (by omega)
  have p6 : PolyS S6 R7 (t + 2) 101 := by
    have a1 : PolyS S4 R5 (t + 2) 101 := by unfold PolyS; rw [Ro e5 _ (by omega)]; exact p4
    have a2 : PolyS S6 R6 (t + 2) 101 := a1.gr g6 (by omega)
    unfold PolyS; rw [Ro e7 _ (by omega)]; exact a2
  have iT : I6 t = I2 t := by rw [d6.2.2.1, d4.2.2.1]
  have i2 : ∀ j, j ≠ 3 → I2 t j = 0 := fun j hj => by rw [f2, up2_sn hj, (g1 t (by omega)).2.2.1, hz]
  refine hq S6 I6 R7 n6 (by omega) ?_ ⟨t6, ⟨?_, ?_, ?_⟩, ⟨?_, ?_, b6.1, b6.2⟩, p6⟩ (by rw [iT]; exact i2 1 (by decide)) (by rw [iT]; exact i2 2 (by decide)) (by rw [iT, f2, up2_ss])
  · exact ((((g1.wk (by omega)).tr (grw.upR e2 (Nat.le_refl _))).tr (grw.upI f2 (Nat.le_refl _))).tr ((c4.wk (by omega)).tr (grw.upR e5 (Nat.le_refl _)))).tr ((g6.wk (by omega)).tr (grw.upR e7 (Nat.le_refl _)))
  · rw [e7, up2_sn (by decide), d6.2.2.2, e5, up2_sn (by decide), d4.2.2.2, e2, up2_ss]
  · rw [e7, up2_sn (by decide), d6.2.2.2, e5, up2_ss]
  · rw [e7, up2_ss]
  · rw [(g6 _ (by omega)).1, (c4 (t + 1) (by omega)).1]; exact b1.1
  · rw [(g6 _ (by omega)).2.1, (c4 (t + 1) (by omega)).2.1]; exact b1.2
theorem textInit {Q : Sh → MI → MR → Prop} {t : Nat} (ht : sT S t = 8) (hn : sN S = t + 1) (hz : I t = fun _ => 0)
    (hq : ∀ S' I' R', sN S' = t + 2 → sU S' ≤ sU S + 1080 → grw S I R S' I' R' t → TxtS S' R' t → HasT I' t [] → Q S' I' R') : CV G MX8_init [vR t] S I R Q := by
  refine bX8_init ⟨by rw [ht]; decide, fun S1 I1 R1 eS eI eR => ?_⟩
  rw [hn]
  have g1 : grw S I R S1 I1 R1 (t + 1) := by rw [eS, eI, eR]; exact grw.new (by omega)
  have n1 : sN S1 = t + 2 := by rw [eS, sN_new, hn]
  have u1 : sU S1 = sU S + 1080 := by rw [eS, sU_new]
  have b1 : sT S1 (t + 1) = 21 ∧ sL S1 (t + 1) = 1080 := by rw [eS, ← hn]; exact ⟨nw_t, nw_l⟩
  have t1 : sT S1 t = 8 := (g1 t (by omega)).1.trans ht
  refine ⟨t1, fun R2 e2 => hq S1 I1 R2 n1 (by omega) ((g1.wk (by omega)).tr (grw.upR e2 (Nat.le_refl _))) ⟨t1, by rw [e2, up2_ss], b1.1, b1.2⟩ ⟨by rw [(g1 t (by omega)).2.2.1, hz]; rfl, Arr.nil⟩⟩
def rfT : List (Nat × Nat × Nat) := [(21, 3, 3), (21, 300, 4), (21, 18000, 5), (21, 54000, 6), (21, 4000, 7), (21, 12000, 8), (22, 200, 10), (21, 3, 17), (21, 2000, 18), (21, 200, 26), (21, 3000, 27), (21, 14400, 29), (23, 120, 30), (21, 120, 31)]
theorem rfT_d : ∀ j, j < 14 → ∀ k, k < 14 → j ≠ k → (rfT.getD j (0, 0, 0)).2.2 ≠ (rfT.getD k (0, 0, 0)).2.2 := by decide
def RiV (m k : Nat) (S : Sh) (I : MI) (R : MR) (Z : Nat → Int) : Prop := (sN S = m + 1 + k ∧ sT S m = 10) ∧ (∀ j, j < k → sT S (m + 1 + j) = (rfT.getD j (0, 0, 0)).1 ∧ sL S (m + 1 + j) = (rfT.getD j (0, 0, 0)).2.1 ∧ R m (rfT.getD j (0, 0, 0)).2.2 = m + 1 + j) ∧ I m = Z ∧ (1 ≤ k → ∀ i, i < 3 → I (m + 1) i = 1) ∧ (2 ≤ k → ∀ j, I (m + 2) j = 0)
theorem RiV.s {m k : Nat} {Z : Nat → Int} {S1 : Sh} {I1 : MI} {R1 : MR} (hk : 1 ≤ k) (hk14 : k < 14) (h : RiV m k S I R Z) {S2 : Sh} {I2 : MI} {R2 R3 : MR} {t l f : Nat} (ex : rfT.getD k (0, 0, 0) = (t, l, f)) (eS : S2 = shNew S t l l) (eI : I2 = mNew I (sN S) 0) (eR : R2 = mNew R (sN S) 0) (e3 : R3 = up2 R2 m f (sN S)) : RiV m (k + 1) S2 I2 R3 Z ∧ grw S I R S2 I2 R3 m ∧ sU S2 = sU S + l := by
  have g2 : grw S I R S2 I2 R2 (m + 1 + k) := by rw [eS, eI, eR]; exact grw.new (by rw [h.1.1]; exact Nat.le_refl _)
  have n2 : sN S2 = m + 1 + (k + 1) := by rw [eS, sN_new, h.1.1]; omega
  have tc : sT S2 (m + 1 + k) = t ∧ sL S2 (m + 1 + k) = l := by rw [eS, ← h.1.1]; exact ⟨nw_t, nw_l⟩
  have gm := g2 m (by omega)
  refine ⟨⟨⟨n2, gm.1.trans h.1.2⟩, fun j hj => ?_, gm.2.2.1.trans h.2.2.1, fun _ i hi => ?_, fun h2 j => ?_⟩, (g2.wk (by omega)).tr (grw.upR e3 (Nat.le_refl _)), by rw [eS, sU_new]⟩
  · by_cases e : j = k
    · rw [e, ex]
      exact ⟨tc.1, tc.2, by rw [e3, up2_ss, h.1.1]⟩
    · have hj2 := h.2.1 j (by omega)
      have gj := g2 (m + 1 + j) (by omega)
      refine ⟨gj.1.trans hj2.1, gj.2.1.trans hj2.2.1, ?_⟩
      have ne := rfT_d j (by omega) k hk14 e
      rw [ex] at ne
      rw [e3, up2_sn ne, gm.2.2.2]; exact hj2.2.2
  · rw [(g2 (m + 1) (by omega)).2.2.1]; exact h.2.2.2.1 hk i hi
  · by_cases e : k = 1
    · rw [eI, show m + 2 = sN S by rw [h.1.1, e]]
      exact congrFun (up1_s I (sN S) (fun _ => (0 : Int))) j
    · rw [(g2 (m + 2) (by omega)).2.2.1]; exact h.2.2.2.2 (by omega) j
theorem refInit {Q : Sh → MI → MR → Prop} {m : Nat} (ht : sT S m = 10) (hn : sN S = m + 1) (hz : I m = fun _ => 0)
    (hq : ∀ S' I' R', sN S' = m + 15 → sU S' ≤ sU S + 120000 → grw S I R S' I' R' m → RfS S' R' m → (I' m 1 = 2 ∧ I' m 2 = 32003 ∧ I' m 15 = -1 ∧ ∀ j, j ≠ 1 → j ≠ 2 → j ≠ 15 → I' m j = 0) → (∀ i, i < 3 → I' (m + 1) i = 1) → (∀ j, I' (m + 2) j = 0) → Q S' I' R') : CV G MX10_init [vR m] S I R Q := by
  refine bX10_init ⟨by rw [ht]; decide, ht, fun J1 f1 => fun J2 f2 => fun S1 I1 R1 eS eI eR => ?_⟩
  have g1 : grw S J2 R S1 I1 R1 (m + 1) := by rw [eS, eI, eR]; exact grw.new (by omega)
  have n1 : sN S1 = m + 2 := by rw [eS, sN_new, hn]
  have u1 : sU S1 = sU S + 3 := by rw [eS, sU_new]
  have w1 : sT S1 (m + 1) = 21 ∧ sL S1 (m + 1) = 3 := by rw [eS, ← hn]; exact ⟨nw_t, nw_l⟩
  have t1 : sT S1 m = 10 := (g1 m (by omega)).1.trans ht
  clear eS eI eR
  rw [hn, w1.2]
  refine ⟨w1.1, by omega, fun K1 k1 => ⟨by omega, fun K2 k2 => ⟨by omega, fun K3 k3 => ⟨t1, fun R2 e2 => ?_⟩⟩⟩⟩
  have Zm : K3 m = J2 m := by rw [k3, up2_n (by omega), k2, up2_n (by omega), k1, up2_n (by omega), (g1 m (by omega)).2.2.1]
  have v1 : RiV m 1 S1 K3 R2 (J2 m) := by
    refine ⟨⟨by omega, t1⟩, fun j hj => ?_, Zm, fun _ i hi => ?_, fun h2 => by omega⟩
    · have ej : j = 0 := by omega
      rw [ej]
      exact ⟨w1.1, w1.2, by rw [e2]; exact up2_ss _ _ _ _⟩
    · have h3 : i = 0 ∨ i = 1 ∨ i = 2 := by omega
      rcases h3 with rfl | rfl | rfl
      · rw [k3, up2_sn (by decide), k2, up2_sn (by decide), k1]; exact up2_ss _ _ _ _
      · rw [k3, up2_sn (by decide), k2]; exact up2_ss _ _ _ _
      · rw [k3]; exact up2_ss _ _ _ _
  have gK : grw S I R S1 K3 R2 m := by
    refine ((grw.upI f1 (Nat.le_refl _)).tr (grw.upI f2 (Nat.le_refl _))).tr ((g1.wk (by omega)).tr ?_)
    exact (((grw.upI k1 (by omega)).tr (grw.upI k2 (by omega))).tr (grw.upI k3 (by omega))).tr (grw.upR e2 (Nat.le_refl _))
  intro A1 B1 C1 x1 y1 z1
  refine ⟨?_, fun D1 q1 => ?_⟩
  · rw [x1, (nw_o (by have := v1.1.1; omega)).1]; exact v1.1.2
  have st1 := RiV.s (S1 := S1) (I1 := K3) (R1 := R2) (k := 1) (by decide) (by decide) v1 rfl x1 y1 z1 q1
  intro A2 B2 C2 x2 y2 z2
  refine ⟨?_, fun D2 q2 => ?_⟩
  · rw [x2, (nw_o (by have := st1.1.1.1; omega)).1]; exact st1.1.1.2
  have st2 := RiV.s (S1 := A1) (I1 := B1) (R1 := D1) (k := 2) (by decide) (by decide) st1.1 rfl x2 y2 z2 q2
  intro A3 B3 C3 x3 y3 z3
  refine ⟨?_, fun D3 q3 => ?_⟩
  · rw [x3, (nw_o (by have := st2.1.1.1; omega)).1]; exact st2.1.1.2
  have st3 := RiV.s (S1 := A2) (I1 := B2) (R1 := D2) (k := 3) (by decide) (by decide) st2.1 rfl x3 y3 z3 q3
  intro A4 B4 C4 x4 y4 z4
  refine ⟨?_, fun D4 q4 => ?_⟩
  · rw [x4, (nw_o (by have := st3.1.1.1; omega)).1]; exact st3.1.1.2
  have st4 := RiV.s (S1 := A3) (I1 := B3) (R1 := D3) (k := 4) (by decide) (by decide) st3.1 rfl x4 y4 z4 q4
  intro A5 B5 C5 x5 y5 z5
  refine ⟨?_, fun D5 q5 => ?_⟩
  · rw [x5, (nw_o (by have := st4.1.1.1; omega)).1]; exact st4.1.1.2
  have st5 := RiV.s (S1 := A4) (I1 := B4) (R1 := D4) (k := 5) (by decide) (by decide) st4.1 rfl x5 y5 z5 q5
  intro A6 B6 C6 x6 y6 z6
  refine ⟨?_, fun D6 q6 => ?_⟩
  · rw [x6, (nw_o (by have := st5.1.1.1; omega)).1]; exact st5.1.1.2
  have st6 := RiV.s (S1 := A5) (I1 := B5) (R1 := D5) (k := 6) (by decide) (by decide) st5.1 rfl x6 y6 z6 q6
  intro E6 w6
  have vE : RiV m 7 A6 E6 D6 (E6 m) := ⟨st6.1.1, st6.1.2.1, rfl, fun h1 i hi => by rw [w6, up2_n (by omega)]; exact st6.1.2.2.2.1 h1 i hi, fun h2 j => by rw [w6, up2_n (by omega)]; exact st6.1.2.2.2.2 h2 j⟩
  intro A7 B7 C7 x7 y7 z7
  refine ⟨?_, fun D7 q7 => ?_⟩
  · rw [x7, (nw_o (by have := vE.1.1; omega)).1]; exact vE.1.2
  have st7 := RiV.s (S1 := A6) (I1 := E6) (R1 := D6) (k := 7) (by decide) (by decide) vE rfl x7 y7 z7 q7
  intro A8 B8 C8 x8 y8 z8
  refine ⟨?_, fun D8 q8 => ?_⟩
  · rw [x8, (nw_o (by have := st7.1.1.1; omega)).1]; exact st7.1.1.2
  have st8 := RiV.s (S1 := A7) (I1 := B7) (R1 := D7) (k := 8) (by decide) (by decide) st7.1 rfl x8 y8 z8 q8
  intro A9 B9 C9 x9 y9 z9
  refine ⟨?_, fun D9 q9 => ?_⟩
  · rw [x9, (nw_o (by have := st8.1.1.1; omega)).1]; exact st8.1.1.2
  have st9 := RiV.s (S1 := A8) (I1 := B8) (R1 := D8) (k := 9) (by decide) (by decide) st8.1 rfl x9 y9 z9 q9
  intro A10 B10 C10 x10 y10 z10
  refine ⟨?_, fun D10 q10 => ?_⟩
  · rw [x10, (nw_o (by have := st9.1.1.1; omega)).1]; exact st9.1.1.2
  have st10 := RiV.s (S1 := A9) (I1 := B9) (R1 := D9) (k := 10) (by decide) (by decide) st9.1 rfl x10 y10 z10 q10
  intro A11 B11 C11 x11 y11 z11
  refine ⟨?_, fun D11 q11 => ?_⟩
  · rw [x11, (nw_o (by have := st10.1.1.1; omega)).1]; exact st10.1.1.2
  have st11 := RiV.s (S1 := A10) (I1 := B10) (R1 := D10) (k := 11) (by decide) (by decide) st10.1 rfl x11 y11 z11 q11
  intro A12 B12 C12 x12 y12 z12
  refine ⟨?_, fun D12 q12 => ?_⟩
  · rw [x12, (nw_o (by have := st11.1.1.1; omega)).1]; exact st11.1.1.2
  have st12 := RiV.s (S1 := A11) (I1 := B11) (R1 := D11) (k := 12) (by decide) (by decide) st11.1 rfl x12 y12 z12 q12
  intro A13 B13 C13 x13 y13 z13
  refine ⟨?_, fun D13 q13 => ?_⟩
  · rw [x13, (nw_o (by have := st12.1.1.1; omega)).1]; exact st12.1.1.2
  have st13 := RiV.s (S1 := A12) (I1 := B12) (R1 := D12) (k := 13) (by decide) (by decide) st12.1 rfl x13 y13 z13 q13
  have L := st13.1
  have t := fun j hj => L.2.1 j hj
  have c0 := t 0 (by decide); have c1 := t 1 (by decide); have c2 := t 2 (by decide); have c3 := t 3 (by decide); have c4 := t 4 (by decide); have c5 := t 5 (by decide); have c6 := t 6 (by decide)
  have c7 := t 7 (by decide); have c8 := t 8 (by decide); have c9 := t 9 (by decide); have c10 := t 10 (by decide); have c11 := t 11 (by decide); have c12 := t 12 (by decide); have c13 := t 13 (by decide)
  have rf : RfS A13 D13 m := ⟨L.1.2, ⟨⟨c0.2.2, c1.2.2, c2.2.2, c3.2.2⟩, ⟨c4.2.2, c5.2.2, c6.2.2, c7.2.2⟩, ⟨c8.2.2, c9.2.2, c10.2.2, c11.2.2⟩, c12.2.2, c13.2.2⟩, ⟨⟨c0.1, c1.1, c2.1, c3.1⟩, ⟨c4.1, c5.1, c6.1, c7.1⟩, ⟨c8.1, c9.1, c10.1, c11.1⟩, c12.1, c13.1⟩, ⟨⟨c0.2.1, c1.2.1, c2.2.1, c3.2.1⟩, ⟨c4.2.1, c5.2.1, c6.2.1, c7.2.1⟩, ⟨c8.2.1, c9.2.1, c10.2.1, c11.2.1⟩, c12.2.1, c13.2.1⟩⟩
  have us := st1.2.2; have us2 := st2.2.2; have us3 := st3.2.2; have us4 := st4.2.2; have us5 := st5.2.2; have us6 := st6.2.2; have us7 := st7.2.2; have us8 := st8.2.2; have us9 := st9.2.2; have us10 := st10.2.2; have us11 := st11.2.2; have us12 := st12.2.2; have us13 := st13.2.2
  have uT : sU A13 ≤ sU S + 120000 := by
    rw [us13, us12, us11, us10, us9, us8, us7, us6, us5, us4, us3, us2, us, u1]
    exact n120 _
  have gA : grw S I R A13 B13 D13 m := gK.tr (st1.2.1.tr (st2.2.1.tr (st3.2.1.tr (st4.2.1.tr (st5.2.1.tr (st6.2.1.tr ((grw.upI w6 (Nat.le_refl _)).tr (st7.2.1.tr (st8.2.1.tr (st9.2.1.tr (st10.2.1.tr (st11.2.1.tr (st12.2.1.tr st13.2.1)))))))))))))
  have eZ : B13 m = E6 m := L.2.2.1
  have e6 : ∀ j, j ≠ 15 → E6 m j = J2 m j := fun j hj => by rw [w6, up2_sn hj, st6.1.2.2.1]
  refine hq A13 B13 D13 (by have := L.1.1; omega) uT gA rf ⟨?_, ?_, ?_, fun j h1 h2 h15 => ?_⟩ (L.2.2.2.1 (by decide)) (L.2.2.2.2 (by decide))
  · rw [eZ, e6 1 (by decide), f2, up2_sn (by decide), f1, up2_ss]
  · rw [eZ, e6 2 (by decide), f2, up2_ss]
  · rw [eZ, w6, up2_ss]
  · rw [eZ, e6 j h15, f2, up2_sn h2, f1, up2_sn h1, hz]
end INI3
