/-! ===== objects made: ring, tape, text ===== -/
theorem n120 (a : Nat) : a + 3 + 300 + 18000 + 54000 + 4000 + 12000 + 200 + 3 + 2000 + 200 + 3000 + 14400 + 120 + 120 ≤ a + 120000 := by omega
section INI3
variable {G : Gl} {S : Sh} {I : MI} {R : MR}
theorem numInit {Q : Sh → MI → MR → Prop} {a : Nat} {p : Int} (ht : sT S a = 4) (hp : 2 ≤ p ∧ p ≤ 32749) (hq : ∀ I', (∀ b, b ≠ a → I' b = I b) → NumS S I' a p → Q S I' R) : CV G MX4_init [vR a, vI p] S I R Q :=
  bX4_init ⟨by rw [ht]; decide, ht, fun I' e => hq I' (fun b hb => by rw [e]; exact up2_n hb) ⟨ht, by rw [e, up2_ss]; omega, hp⟩⟩
theorem ringInit {Q : Sh → MI → MR → Prop} {r : Nat} (ht : sT S r = 6) (hn : sN S = r + 1)
    (hq : ∀ S' I' R', sN S' = r + 9 → sU S' ≤ sU S + 1000 → grw S I R S' I' R' r → RingL S' R' r → R' r 1 = r + 1 → NumS S' I' (r + 1) 32003 → RingT I' r 2 (fun _ => 1) → Q S' I' R') : CV G MX6_init [vR r] S I R Q := by
  refine bX6_init ⟨by rw [ht]; decide, ht, fun I0 e0 => fun S1 I1 R1 eS eI eR => ?_⟩
  rw [hn]
  have g1 : grw S I0 R S1 I1 R1 (r + 1) := by rw [eS, eI, eR]; exact grw.new (by omega)
  have n1 : sN S1 = r + 2 := by rw [eS, sN_new, hn]
  have u1 : sU S1 = sU S + 1 := by rw [eS, sU_new]
  have t1 : sT S1 (r + 1) = 4 := by rw [eS, ← hn]; exact nw_t
  have tr1 : sT S1 r = 6 := (g1 r (by omega)).1.trans ht
  clear eS eI eR
  refine ⟨by rw [t1]; decide, numInit t1 ⟨by decide, by decide⟩ (fun I2 o2 nm2 => ⟨tr1, fun R3 e3 => fun S4 I4 R4 eS4 eI4 eR4 => ?_⟩)⟩
  rw [n1]
  have g4 : grw S1 I2 R3 S4 I4 R4 (r + 2) := by rw [eS4, eI4, eR4]; exact grw.new (by omega)
  have n4 : sN S4 = r + 3 := by rw [eS4, sN_new, n1]
  have u4 : sU S4 = sU S1 + 3 := by rw [eS4, sU_new]
  have w4 : sT S4 (r + 2) = 21 ∧ sL S4 (r + 2) = 3 := by rw [eS4, ← n1]; exact ⟨nw_t, nw_l⟩
  have tr4 : sT S4 r = 6 := (g4 r (by omega)).1.trans tr1
  clear eS4 eI4 eR4
  refine ⟨tr4, fun R5 e5 => fun S6 I6 R6 eS6 eI6 eR6 => ?_⟩
  rw [n4]
  have g6 : grw S4 I4 R5 S6 I6 R6 (r + 3) := by rw [eS6, eI6, eR6]; exact grw.new (by omega)
  have n6 : sN S6 = r + 4 := by rw [eS6, sN_new, n4]
  have u6 : sU S6 = sU S4 + 165 := by rw [eS6, sU_new]
  have w6 : sT S6 (r + 3) = 21 ∧ sL S6 (r + 3) = 165 := by rw [eS6, ← n4]; exact ⟨nw_t, nw_l⟩
  have tr6 : sT S6 r = 6 := (g6 r (by omega)).1.trans tr4
  clear eS6 eI6 eR6
  refine ⟨tr6, fun R7 e7 => fun S8 I8 R8 eS8 eI8 eR8 => ?_⟩
  rw [n6]
  have g8 : grw S6 I6 R7 S8 I8 R8 (r + 4) := by rw [eS8, eI8, eR8]; exact grw.new (by omega)
  have n8 : sN S8 = r + 5 := by rw [eS8, sN_new, n6]
  have u8 : sU S8 = sU S6 + 26 := by rw [eS8, sU_new]
  have w8 : sT S8 (r + 4) = 21 ∧ sL S8 (r + 4) = 26 := by rw [eS8, ← n6]; exact ⟨nw_t, nw_l⟩
  have tr8 : sT S8 r = 6 := (g8 r (by omega)).1.trans tr6
  clear eS8 eI8 eR8
  refine ⟨tr8, fun R9 e9 => fun S10 I10 R10 eS10 eI10 eR10 => ?_⟩
  rw [n8]
  have g10 : grw S8 I8 R9 S10 I10 R10 (r + 5) := by rw [eS10, eI10, eR10]; exact grw.mul (by omega)
  have n10 : sN S10 = r + 9 := by rw [eS10, sN_mul, n8]
  have u10 : sU S10 = sU S8 + (3 + 3 * 120) := by rw [eS10, sU_mul]
  have tr10 : sT S10 r = 6 := (g10 r (by omega)).1.trans tr8
  have nx : (sT S10 (r + 5) = 27 ∧ sL S10 (r + 5) = 3) ∧ ∀ i, i < 3 → R10 (r + 5) i = r + 6 + i ∧ sT S10 (r + 6 + i) = 21 ∧ sL S10 (r + 6 + i) = 120 := by
    refine ⟨⟨by rw [eS10, sT_mul, if_pos n8.symm], by rw [eS10, sL_mul, if_pos n8.symm]⟩, fun i hi => ⟨?_, ?_, ?_⟩⟩
    · rw [eR10, n8]; unfold rMul; rw [if_pos rfl, if_pos hi]
    · rw [eS10, sT_mul, if_neg (by omega), if_pos (by omega)]
    · rw [eS10, sL_mul, if_neg (by omega), if_pos (by omega)]
  clear eS10 eI10 eR10
  refine ⟨tr10, fun R11 e11 => ?_⟩
  have Ro : ∀ {R' R : MR} {k v : Nat}, R' = up2 R r k v → ∀ b, b ≠ r → R' b = R b := fun e b hb => by rw [e]; exact up2_n hb
  have d4 := g4 r (by omega)
  have d6 := g6 r (by omega)
  have d8 := g8 r (by omega)
  have d10 := g10 r (by omega)
  have rl : RingL S10 R11 r := by
    refine ⟨tr10, ⟨?_, ?_, ?_, ?_⟩, ⟨?_, ?_, ?_, nx.1.1⟩, ⟨?_, ?_, ?_, nx.1.2⟩, fun i hi => ⟨by rw [Ro e11 _ (by omega)]; exact (nx.2 i hi).1, (nx.2 i hi).2⟩⟩
    · rw [e11, up2_sn (by decide), d10.2.2.2, e9, up2_sn (by decide), d8.2.2.2, e7, up2_sn (by decide), d6.2.2.2, e5, up2_ss]
    · rw [e11, up2_sn (by decide), d10.2.2.2, e9, up2_sn (by decide), d8.2.2.2, e7, up2_ss]
    · rw [e11, up2_sn (by decide), d10.2.2.2, e9, up2_ss]
    · rw [e11, up2_ss]
    · rw [(g10 _ (by omega)).1, (g8 _ (by omega)).1, (g6 _ (by omega)).1]; exact w4.1
    · rw [(g10 _ (by omega)).1, (g8 _ (by omega)).1]; exact w6.1
    · rw [(g10 _ (by omega)).1]; exact w8.1
    · rw [(g10 _ (by omega)).2.1, (g8 _ (by omega)).2.1, (g6 _ (by omega)).2.1]; exact w4.2
    · rw [(g10 _ (by omega)).2.1, (g8 _ (by omega)).2.1]; exact w6.2
    · rw [(g10 _ (by omega)).2.1]; exact w8.2
  have r1 : R11 r 1 = r + 1 := by
    rw [e11, up2_sn (by decide), d10.2.2.2, e9, up2_sn (by decide), d8.2.2.2, e7, up2_sn (by decide), d6.2.2.2, e5, up2_sn (by decide), d4.2.2.2, e3, up2_ss]
  have i0 : I10 r 0 = 2 := by
    rw [d10.2.2.1, d8.2.2.1, d6.2.2.1, d4.2.2.1, o2 r (by omega), (g1 r (by omega)).2.2.1, e0, up2_ss]
  have nmT : sT S10 (r + 1) = 4 := by rw [(g10 _ (by omega)).1, (g8 _ (by omega)).1, (g6 _ (by omega)).1, (g4 _ (by omega)).1]; exact t1
  have nmI : I10 (r + 1) 0 = 32003 := by rw [(g10 _ (by omega)).2.2.1, (g8 _ (by omega)).2.2.1, (g6 _ (by omega)).2.2.1, (g4 _ (by omega)).2.2.1]; exact nm2.2.1
  have gAll : grw S I R S10 I10 R11 r := by
    refine ((grw.upI e0 (Nat.le_refl _)).tr (g1.wk (by omega))).tr ?_
    have q2 : grw S1 I1 R1 S1 I2 R1 r := fun b hb => ⟨rfl, rfl, o2 b (by omega), rfl⟩
    exact q2.tr ((grw.upR e3 (Nat.le_refl _)).tr (((g4.wk (by omega)).tr (grw.upR e5 (Nat.le_refl _))).tr (((g6.wk (by omega)).tr (grw.upR e7 (Nat.le_refl _))).tr (((g8.wk (by omega)).tr (grw.upR e9 (Nat.le_refl _))).tr ((g10.wk (by omega)).tr (grw.upR e11 (Nat.le_refl _)))))))
  refine weigh_spec (w := fun _ => 1) (n := 2) rl i0 ⟨by decide, by decide⟩ (fun i _ => (⟨by decide, by decide⟩ : (1 : Int) ≤ 1 ∧ (1 : Int) ≤ 4)) (fun I' o rt => hq S10 I' R11 n10 (by omega) (fun b hb => ?_) rl r1 ⟨nmT, ?_, by decide, by decide⟩ rt)
  · have := gAll b hb
    exact ⟨this.1, this.2.1, (o.1 b (by omega) (Or.inl (by omega))).trans this.2.2.1, this.2.2.2⟩
  · rw [o.1 (r + 1) (by omega) (Or.inl (by omega))]; exact nmI
theorem tapeInit {Q : Sh → MI → MR → Prop} {t : Nat} (ht : sT S t = 7) (hn : sN S = t + 1) (hz : I t = fun _ => 0)
    (hq : ∀ S' I' R', sN S' = t + 6 → sU S' ≤ sU S + 500 → grw S I R S' I' R' t → TpS S' R' t → I' t 1 = 0 → I' t 2 = 0 → I' t 3 = -1 → Q S' I' R') : CV G MX7_init [vR t] S I R Q := by
  refine bX7_init ⟨by rw [ht]; decide, fun S1 I1 R1 eS eI eR => ?_⟩
  rw [hn]
  have g1 : grw S I R S1 I1 R1 (t + 1) := by rw [eS, eI, eR]; exact grw.new (by omega)
  have n1 : sN S1 = t + 2 := by rw [eS, sN_new, hn]
  have u1 : sU S1 = sU S + 200 := by rw [eS, sU_new]
  have b1 : sT S1 (t + 1) = 21 ∧ sL S1 (t + 1) = 200 := by rw [eS, ← hn]; exact ⟨nw_t, nw_l⟩
  have t1 : sT S1 t = 7 := (g1 t (by omega)).1.trans ht
  clear eS eI eR
  refine ⟨t1, fun R2 e2 => fun I2 f2 => fun S3 I3 R3 eS3 eI3 eR3 => ?_⟩
  rw [n1]
  have g3 : grw S1 I2 R2 S3 I3 R3 (t + 2) := by rw [eS3, eI3, eR3]; exact grw.new (by omega)
  have n3 : sN S3 = t + 3 := by rw [eS3, sN_new, n1]
  have u3 : sU S3 = sU S1 + 3 := by rw [eS3, sU_new]
  have t3 : sT S3 (t + 2) = 5 := by rw [eS3, ← n1]; exact nw_t
  have z3 : I3 (t + 2) = fun _ => 0 := by rw [eI3, ← n1]; exact up1_s _ _ _
  clear eS3 eI3 eR3
  refine ⟨by rw [t3]; decide, polyInit (cap := 101) t3 n3 z3 (by omega) (fun S4 I4 R4 n4 u4 g4 p4 h4 => ?_)⟩
  have c4 := g3.tr g4
  have t4 : sT S4 t = 7 := (c4 t (by omega)).1.trans t1
  have n4' : sN S4 = t + 5 := by omega
  refine ⟨t4, fun R5 e5 => fun S6 I6 R6 eS6 eI6 eR6 => ?_⟩
  rw [n4']
  have g6 : grw S4 I4 R5 S6 I6 R6 (t + 5) := by rw [eS6, eI6, eR6]; exact grw.new (by omega)
  have n6 : sN S6 = t + 6 := by rw [eS6, sN_new, n4']
  have u6 : sU S6 = sU S4 + 3 := by rw [eS6, sU_new]
  have b6 : sT S6 (t + 5) = 21 ∧ sL S6 (t + 5) = 3 := by rw [eS6, ← n4']; exact ⟨nw_t, nw_l⟩
  have t6 : sT S6 t = 7 := (g6 t (by omega)).1.trans t4
  clear eS6 eI6 eR6
  refine ⟨t6, fun R7 e7 => ?_⟩
  have Ro : ∀ {R' R : MR} {k v : Nat}, R' = up2 R t k v → ∀ b, b ≠ t → R' b = R b := fun e b hb => by rw [e]; exact up2_n hb
  have d4 := c4 t (by omega)
  have d6 := g6 t (by omega)
  have p6 : PolyS S6 R7 (t + 2) 101 := by
    have a1 : PolyS S4 R5 (t + 2) 101 := by unfold PolyS; rw [Ro e5 _ (by omega)]; exact p4
    have a2 : PolyS S6 R6 (t + 2) 101 := a1.gr g6 (by omega)
    unfold PolyS; rw [Ro e7 _ (by omega)]; exact a2
  have iT : I6 t = I2 t := by rw [d6.2.2.1, d4.2.2.1]
  have i2 : ∀ j, j ≠ 3 → I2 t j = 0 := fun j hj => by rw [f2, up2_sn hj, (g1 t (by omega)).2.2.1, hz]
  refine hq S6 I6 R7 n6 (by omega) ?_ ⟨t6, ⟨?_, ?_, ?_⟩, ⟨?_, ?_, b6.1, b6.2⟩, p6⟩ (by rw [iT]; exact i2 1 (by decide)) (by rw [iT]; exact i2 2 (by decide)) (by rw [iT, f2, up2_ss])
  · exact ((((g1.wk (by omega)).tr (grw.upR e2 (Nat.le_refl _))).tr (grw.upI f2 (Nat.le_refl _))).tr ((c4.wk (by omega)).tr (grw.upR e5 (Nat.le_refl _)))).tr ((g6.wk (by omega)).tr (grw.upR e7 (Nat.le_refl _)))
  · rw [e7, up2_sn (by decide), d6.2.2.2, e5, up2_sn (by decide), d4.2.2.2, e2, up2_ss]
  · rw [e7, up2_sn (by decide), d6.2.2.2, e5, up2_ss]
  · rw [e7, up2_ss]
  · rw [(g6 _ (by omega)).1, (c4 (t + 1) (by omega)).1]; exact b1.1
  · rw [(g6 _ (by omega)).2.1, (c4 (t + 1) (by omega)).2.1]; exact b1.2
theorem textInit {Q : Sh → MI → MR → Prop} {t : Nat} (ht : sT S t = 8) (hn : sN S = t + 1) (hz : I t = fun _ => 0)
    (hq : ∀ S' I' R', sN S' = t + 2 → sU S' ≤ sU S + 1080 → grw S I R S' I' R' t → TxtS S' R' t → HasT I' t [] → Q S' I' R') : CV G MX8_init [vR t] S I R Q := by
  refine bX8_init ⟨by rw [ht]; decide, fun S1 I1 R1 eS eI eR => ?_⟩
  rw [hn]
  have g1 : grw S I R S1 I1 R1 (t + 1) := by rw [eS, eI, eR]; exact grw.new (by omega)
  have n1 : sN S1 = t + 2 := by rw [eS, sN_new, hn]
  have u1 : sU S1 = sU S + 1080 := by rw [eS, sU_new]
  have b1 : sT S1 (t + 1) = 21 ∧ sL S1 (t + 1) = 1080 := by rw [eS, ← hn]; exact ⟨nw_t, nw_l⟩
  have t1 : sT S1 t = 8 := (g1 t (by omega)).1.trans ht
  refine ⟨t1, fun R2 e2 => hq S1 I1 R2 n1 (by omega) ((g1.wk (by omega)).tr (grw.upR e2 (Nat.le_refl _))) ⟨t1, by rw [e2, up2_ss], b1.1, b1.2⟩ ⟨by rw [(g1 t (by omega)).2.2.1, hz]; rfl, Arr.nil⟩⟩
end INI3

