/-! ===== X9: a new object ===== -/
theorem isP0 : isP 32003 := by
  refine ⟨by decide, fun d h2 hd hv => ?_⟩
  have hlt : d < 179 := by
    refine Nat.lt_of_not_le (fun z => ?_)
    have := Nat.mul_le_mul z z
    omega
  have all : ∀ d, d < 179 → 2 ≤ d → ¬ 32003 % d = 0 := by decide +kernel
  exact all d hlt h2 (Nat.mod_eq_zero_of_dvd hv)
def ms0 : Ms := ((2, 32003, fun _ => 1), (fun _ => []), ((fun _ => 0), 0), (0, -1), [], none)
theorem ms0_ok : MsOK ms0 := ⟨⟨isP0, by decide⟩, ⟨by decide, by decide⟩, fun i _ => (⟨by decide, by decide⟩ : (1 : Int) ≤ 1 ∧ (1 : Int) ≤ 4), fun k _ => okQ.nil, ⟨Nat.zero_le _, fun i hi => absurd hi (Nat.not_lt_zero _)⟩, Nat.zero_le _, trivial⟩
def Pre1 (S : Sh) (I : MI) (R : MR) : Prop := (sT S 1 = 9 ∧ I 1 = (fun _ => 0)) ∧ (R 1 0 = 2 ∧ R 1 1 = 11 ∧ R 1 2 = 36 ∧ R 1 3 = 42 ∧ R 1 4 = 44 ∧ R 1 5 = 791) ∧ (RingL S R 2 ∧ R 2 1 = 3 ∧ NumS S I 3 32003 ∧ RingT I 2 2 (fun _ => 1)) ∧ (SlN S R 11 8 (fun k => 12 + 3 * k) ∧ ∀ k, k < 8 → Has I (12 + 3 * k) []) ∧ (TpS S R 36 ∧ I 36 1 = 0 ∧ I 36 2 = 0 ∧ I 36 3 = -1) ∧ (TxtS S R 42 ∧ HasT I 42 []) ∧ (DivS S R 44 87 119 ∧ I 44 = fun _ => 0) ∧ sT S 791 = 26 ∧ sL S 791 = 4
theorem n15010 {a b c x : Nat} (h1 : a ≤ b + 15000) (h2 : b = c + 4) (h3 : c ≤ 40000 + x) : a ≤ 40000 + (x + 15010) := by
  have e : 40000 + x + 4 + 15000 ≤ 40000 + (x + 15010) := by
    rw [Nat.add_assoc, Nat.add_assoc]
    exact Nat.add_le_add_left (Nat.add_le_add_left (Nat.le_of_ble_eq_true rfl) x) 40000
  rw [h2] at h1
  exact Nat.le_trans h1 (Nat.le_trans (Nat.add_le_add_right (Nat.add_le_add_right h3 4) 15000) e)
section CIN
variable {G : Gl} {S : Sh} {I : MI} {R : MR}
theorem SlN.sm {S' : Sh} {I' : MI} {R' : MR} {a c : Nat} (h : SlN S R a c (fun k => a + 1 + 3 * k)) (s : sam a (a + 3 * c) S I R S' I' R') : SlN S' R' a c (fun k => a + 1 + 3 * k) := by
  refine ⟨?_, fun k hk => ⟨?_, ?_⟩⟩
  · rw [(s a (by omega) (by omega)).1, (s a (by omega) (by omega)).2.1]; exact h.1
  · rw [(s a (by omega) (by omega)).2.2.2]; exact (h.2 k hk).1
  · have : PolyS S R (a + 1 + 3 * k) 60 := (h.2 k hk).2
    exact this.sm (s.wk (by omega) (by omega))
theorem grw.sam {S' : Sh} {I' : MI} {R' : MR} {c hi : Nat} (h : grw S I R S' I' R' c) (hc : hi < c) : sam 2 hi S I R S' I' R' := fun b _ h2 => h b (by omega)
theorem sam.upR {R' : MR} {k v hi : Nat} (e : R' = up2 R 1 k v) : sam 2 hi S I R S I R' := fun b h1 _ => ⟨rfl, rfl, rfl, by rw [e]; exact up2_n (by omega)⟩
theorem clsInit1 {Q : Sh → MI → MR → Prop} (ht : sT S 1 = 9) (hn : sN S = 2) (hu : sU S ≤ 100) (hz : I 1 = fun _ => 0)
    (hq : ∀ S' I' R', sN S' = 792 → sU S' ≤ 40000 → Pre1 S' I' R' → LX9_init_67 G 1 0 S' I' R' Q) : CV G MX9_init [vR 1] S I R Q := by
  refine bX9_init ⟨by rw [ht]; decide, fun S1 I1 R1 eS eI eR => ?_⟩
  rw [hn]
  have g1 : grw S I R S1 I1 R1 2 := by rw [eS, eI, eR]; exact grw.new (by omega)
  have n1 : sN S1 = 3 := by rw [eS, sN_new, hn]
  have u1 : sU S1 = sU S + 7 := by rw [eS, sU_new]
  have t1 : sT S1 2 = 6 := by rw [eS, ← hn]; exact nw_t
  clear eS eI eR
  refine ⟨by rw [t1]; decide, ringInit t1 n1 (fun S2 I2 R2 n2 u2 g2 rl2 r21 nm2 rt2 => ?_)⟩
  have a2 := (g1.tr g2) 1 (by omega)
  refine ⟨a2.1.trans ht, fun R3 e3 => polys_spec (N := 11) (n := 8) n2 (by omega) (fun S4 I4 R4 n4 u4 g4 sl4 h4 => ?_)⟩
  have a4 := g4 1 (by omega)
  have t4 : sT S4 1 = 9 := a4.1.trans (a2.1.trans ht)
  have s4 : sam 2 10 S2 I2 R2 S4 I4 R4 := (sam.upR e3).tr (g4.sam (by omega))
  refine ⟨t4, fun R5 e5 => fun S6 I6 R6 eS6 eI6 eR6 => ?_⟩
  have n4' : sN S4 = 36 := n4
  rw [n4']
  have g6 : grw S4 I4 R5 S6 I6 R6 36 := by rw [eS6, eI6, eR6]; exact grw.new (by omega)
  have n6 : sN S6 = 37 := by rw [eS6, sN_new, n4']
  have u6 : sU S6 = sU S4 + 8 := by rw [eS6, sU_new]
  have t6 : sT S6 36 = 7 := by rw [eS6, ← n4']; exact nw_t
  have z6 : I6 36 = fun _ => 0 := by rw [eI6, ← n4']; exact up1_s _ _ _
  clear eS6 eI6 eR6
  refine ⟨by rw [t6]; decide, tapeInit t6 n6 z6 (fun S7 I7 R7 n7 u7 g7 tp7 p71 p72 p73 => ?_)⟩
  have c7 := g6.tr g7
  have a7 := c7 1 (by omega)
  have t7 : sT S7 1 = 9 := a7.1.trans t4
  have s7 : sam 2 35 S4 I4 R4 S7 I7 R7 := (sam.upR e5).tr (c7.sam (by omega))
  refine ⟨t7, fun R8 e8 => fun S9 I9 R9 eS9 eI9 eR9 => ?_⟩
  have n7' : sN S7 = 42 := n7
  rw [n7']
  have g9 : grw S7 I7 R8 S9 I9 R9 42 := by rw [eS9, eI9, eR9]; exact grw.new (by omega)
  have n9 : sN S9 = 43 := by rw [eS9, sN_new, n7']
  have u9 : sU S9 = sU S7 + 2 := by rw [eS9, sU_new]
  have t9 : sT S9 42 = 8 := by rw [eS9, ← n7']; exact nw_t
  have z9 : I9 42 = fun _ => 0 := by rw [eI9, ← n7']; exact up1_s _ _ _
  clear eS9 eI9 eR9
  refine ⟨by rw [t9]; decide, textInit t9 n9 z9 (fun S10 I10 R10 n10 u10 g10 tx10 h10 => ?_)⟩
  have c10 := g9.tr g10
  have a10 := c10 1 (by omega)
  have t10 : sT S10 1 = 9 := a10.1.trans t7
  have s10 : sam 2 41 S7 I7 R7 S10 I10 R10 := (sam.upR e8).tr (c10.sam (by omega))
  refine ⟨t10, fun R11 e11 => fun S12 I12 R12 eS12 eI12 eR12 => ?_⟩
  have n10' : sN S10 = 44 := n10
  rw [n10']
  have g12 : grw S10 I10 R11 S12 I12 R12 44 := by rw [eS12, eI12, eR12]; exact grw.new (by omega)
  have n12 : sN S12 = 45 := by rw [eS12, sN_new, n10']
  have u12 : sU S12 = sU S10 + 9 := by rw [eS12, sU_new]
  have t12 : sT S12 44 = 1 := by rw [eS12, ← n10']; exact nw_t
  have z12 : I12 44 = fun _ => 0 := by rw [eI12, ← n10']; exact up1_s _ _ _
  clear eS12 eI12 eR12
  refine ⟨by rw [t12]; decide, divInit t12 n12 z12 (fun S13 I13 R13 n13 u13 g13 zd13 dv13 => ?_)⟩
  have c13 := g12.tr g13
  have a13 := c13 1 (by omega)
  have t13 : sT S13 1 = 9 := a13.1.trans t10
  have s13 : sam 2 43 S10 I10 R10 S13 I13 R13 := (sam.upR e11).tr (c13.sam (by omega))
  refine ⟨t13, fun R14 e14 => fun S15 I15 R15 eS15 eI15 eR15 => ?_⟩
  have n13' : sN S13 = 791 := n13
  rw [n13']
  have g15 : grw S13 I13 R14 S15 I15 R15 791 := by rw [eS15, eI15, eR15]; exact grw.new (by omega)
  have n15 : sN S15 = 792 := by rw [eS15, sN_new, n13']
  have u15 : sU S15 = sU S13 + 4 := by rw [eS15, sU_new]
  have t15 : sT S15 791 = 26 ∧ sL S15 791 = 4 := by rw [eS15, ← n13']; exact ⟨nw_t, nw_l⟩
  clear eS15 eI15 eR15
  have a15 := g15 1 (by omega)
  have t15' : sT S15 1 = 9 := a15.1.trans t13
  have s15 : sam 2 790 S13 I13 R13 S15 I15 R15 := (sam.upR e14).tr (g15.sam (by omega))
  refine ⟨t15', fun R16 e16 => hq S15 I15 R16 n15 (by omega) ?_⟩
  have s16 : sam 2 790 S13 I13 R13 S15 I15 R16 := s15.tr (sam.upR e16)
  have w10 := (s13.tr (s16.wk (by omega) (by omega)) : sam 2 43 S10 I10 R10 S15 I15 R16)
  have w7 := (s10.tr (w10.wk (by omega) (by omega)) : sam 2 41 S7 I7 R7 S15 I15 R16)
  have w4 := (s7.tr (w7.wk (by omega) (by omega)) : sam 2 35 S4 I4 R4 S15 I15 R16)
  have w2 := (s4.tr (w4.wk (by omega) (by omega)) : sam 2 10 S2 I2 R2 S15 I15 R16)
  refine ⟨⟨t15', ?_⟩, ⟨?_, ?_, ?_, ?_, ?_, ?_⟩, ⟨rl2.sm (w2.wk (by omega) (by omega)), ?_, nm2.sm (w2.wk (by omega) (by omega)), rt2.sm (w2.wk (by omega) (by omega))⟩, ⟨SlN.sm (a := 11) (c := 8) sl4 (w4.wk (by omega) (by omega)), fun k hk => ?_⟩, ⟨tp7.sm (w7.wk (by omega) (by omega)), ?_, ?_, ?_⟩, ⟨tx10.sm (w10.wk (by omega) (by omega)), h10.sm (w10.wk (by omega) (by omega))⟩, ⟨dv13.sm (s16.wk (by omega) (by omega)), ?_⟩, t15⟩
  · rw [a15.2.2.1, a13.2.2.1, a10.2.2.1, a7.2.2.1, a4.2.2.1, a2.2.2.1]; exact hz
  · rw [e16, up2_sn (by decide), a15.2.2.2, e14, up2_sn (by decide), a13.2.2.2, e11, up2_sn (by decide), a10.2.2.2, e8, up2_sn (by decide), a7.2.2.2, e5, up2_sn (by decide), a4.2.2.2, e3, up2_ss]
  · rw [e16, up2_sn (by decide), a15.2.2.2, e14, up2_sn (by decide), a13.2.2.2, e11, up2_sn (by decide), a10.2.2.2, e8, up2_sn (by decide), a7.2.2.2, e5, up2_ss]
  · rw [e16, up2_sn (by decide), a15.2.2.2, e14, up2_sn (by decide), a13.2.2.2, e11, up2_sn (by decide), a10.2.2.2, e8, up2_ss]
  · rw [e16, up2_sn (by decide), a15.2.2.2, e14, up2_sn (by decide), a13.2.2.2, e11, up2_ss]
  · rw [e16, up2_sn (by decide), a15.2.2.2, e14, up2_ss]
  · rw [e16, up2_ss]
  · rw [(w2 2 (by omega) (by omega)).2.2.2]; exact r21
  · have := h4 k hk
    exact (show Has I4 (12 + 3 * k) [] from this).sm (w4.wk (by omega) (by omega))
  · rw [(w7 36 (by omega) (by omega)).2.2.1]; exact p71
  · rw [(w7 36 (by omega) (by omega)).2.2.1]; exact p72
  · rw [(w7 36 (by omega) (by omega)).2.2.1]; exact p73
  · rw [(s16 44 (by omega) (by omega)).2.2.1]; exact zd13
theorem Pre1.sm {S' : Sh} {I' : MI} {R' : MR} (h : Pre1 S I R) (s : sam 2 790 S I R S' I' R') (h791 : sT S' 791 = sT S 791 ∧ sL S' 791 = sL S 791) (h1 : sT S' 1 = sT S 1 ∧ I' 1 = I 1) (h2 : ∀ j, j < 6 → R' 1 j = R 1 j) : Pre1 S' I' R' := by
  obtain ⟨⟨a1, a2⟩, ⟨b0, b1, b2, b3, b4, b5⟩, ⟨c1, c2, c3, c4⟩, ⟨d1, d2⟩, ⟨e1, e2, e3, e4⟩, ⟨f1, f2⟩, ⟨g1, g2⟩, i1, i2⟩ := h
  refine ⟨⟨h1.1.trans a1, h1.2.trans a2⟩, ⟨(h2 0 (by omega)).trans b0, (h2 1 (by omega)).trans b1, (h2 2 (by omega)).trans b2, (h2 3 (by omega)).trans b3, (h2 4 (by omega)).trans b4, (h2 5 (by omega)).trans b5⟩, ⟨c1.sm (s.wk (by omega) (by omega)), by rw [(s 2 (by omega) (by omega)).2.2.2]; exact c2, c3.sm (s.wk (by omega) (by omega)), c4.sm (s.wk (by omega) (by omega))⟩, ⟨SlN.sm (a := 11) (c := 8) d1 (s.wk (by omega) (by omega)), fun k hk => (d2 k hk).sm (s.wk (by omega) (by omega))⟩, ⟨e1.sm (s.wk (by omega) (by omega)), ?_, ?_, ?_⟩, ⟨f1.sm (s.wk (by omega) (by omega)), f2.sm (s.wk (by omega) (by omega))⟩, ⟨g1.sm (s.wk (by omega) (by omega)), by rw [(s 44 (by omega) (by omega)).2.2.1]; exact g2⟩, by rw [h791.1]; exact i1, by rw [h791.2]; exact i2⟩
  · rw [(s 36 (by omega) (by omega)).2.2.1]; exact e2
  · rw [(s 36 (by omega) (by omega)).2.2.1]; exact e3
  · rw [(s 36 (by omega) (by omega)).2.2.1]; exact e4
theorem clsInit2 {Q : Sh → MI → MR → Prop} (hn : sN S = 1288) (hu : sU S ≤ 110000) (h : Pre1 S I R) (hid : ∀ k, k < 4 → R 791 k = idA k ∧ IdS S R (idA k) ∧ I (idA k) 0 = -1 ∧ IdZ I (idA k))
    (hq : ∀ S' I' R', sN S' = 1310 → sU S' ≤ 200000 → Cls S' I' R' ms0 → Q S' I' R') : LX9_init_67 G 1 4 S I R Q := by
  refine bX9_init_67 (br_t (by decide) (polys_spec (N := 1288) (n := 4) hn (by omega) (fun S1 I1 R1 n1 u1 g1 sl1 h1 => ⟨(g1 1 (by omega)).1.trans h.1.1, fun R2 e2 => fun S3 I3 R3 eS3 eI3 eR3 => ?_⟩)))
  have a1 := g1 1 (by omega)
  have n1' : sN S1 = 1301 := n1
  rw [n1']
  have g3 : grw S1 I1 R2 S3 I3 R3 1301 := by rw [eS3, eI3, eR3]; exact grw.new (by omega)
  have n3 : sN S3 = 1302 := by rw [eS3, sN_new, n1']
  have u3 : sU S3 = sU S1 + 3 := by rw [eS3, sU_new]
  have t3 : sT S3 1301 = 5 := by rw [eS3, ← n1']; exact nw_t
  have z3 : I3 1301 = fun _ => 0 := by rw [eI3, ← n1']; exact up1_s _ _ _
  clear eS3 eI3 eR3
  refine ⟨by rw [t3]; decide, polyInit (cap := 60) t3 n3 z3 (by omega) (fun S4 I4 R4 n4 u4 g4 p4 h4 => ?_)⟩
  have c4 := g3.tr g4
  have a4 := c4 1 (by omega)
  have s4 : sam 2 1300 S1 I1 R1 S4 I4 R4 := (sam.upR e2).tr (c4.sam (by omega))
  refine ⟨a4.1.trans (a1.1.trans h.1.1), fun R5 e5 => fun S6 I6 R6 eS6 eI6 eR6 => ?_⟩
  have n4' : sN S4 = 1304 := n4
  rw [n4']
  have g6 : grw S4 I4 R5 S6 I6 R6 1304 := by rw [eS6, eI6, eR6]; exact grw.new (by omega)
  have n6 : sN S6 = 1305 := by rw [eS6, sN_new, n4']
  have u6 : sU S6 = sU S4 + 3 := by rw [eS6, sU_new]
  have t6 : sT S6 1304 = 5 := by rw [eS6, ← n4']; exact nw_t
  have z6 : I6 1304 = fun _ => 0 := by rw [eI6, ← n4']; exact up1_s _ _ _
  clear eS6 eI6 eR6
  refine ⟨by rw [t6]; decide, polyInit (cap := 3600) t6 n6 z6 (by omega) (fun S7 I7 R7 n7 u7 g7 p7 h7 => ?_)⟩
  have c7 := g6.tr g7
  have a7 := c7 1 (by omega)
  have s7 : sam 2 1303 S4 I4 R4 S7 I7 R7 := (sam.upR e5).tr (c7.sam (by omega))
  refine ⟨a7.1.trans (a4.1.trans (a1.1.trans h.1.1)), fun R8 e8 => fun S9 I9 R9 eS9 eI9 eR9 => ?_⟩
  have n7' : sN S7 = 1307 := n7
  rw [n7']
  have g9 : grw S7 I7 R8 S9 I9 R9 1307 := by rw [eS9, eI9, eR9]; exact grw.new (by omega)
  have n9 : sN S9 = 1308 := by rw [eS9, sN_new, n7']
  have u9 : sU S9 = sU S7 + 3 := by rw [eS9, sU_new]
  have t9 : sT S9 1307 = 5 := by rw [eS9, ← n7']; exact nw_t
  have z9 : I9 1307 = fun _ => 0 := by rw [eI9, ← n7']; exact up1_s _ _ _
  clear eS9 eI9 eR9
  refine ⟨by rw [t9]; decide, polyInit (cap := 3600) t9 n9 z9 (by omega) (fun SA IA RA nA uA gA pA hA => ?_)⟩
  have cA := g9.tr gA
  have aA := cA 1 (by omega)
  have sA : sam 2 1306 S7 I7 R7 SA IA RA := (sam.upR e8).tr (cA.sam (by omega))
  have tA : sT SA 1 = 9 := aA.1.trans (a7.1.trans (a4.1.trans (a1.1.trans h.1.1)))
  refine ⟨tA, fun RB eB => ?_⟩
  have sB : sam 2 1309 SA IA RA SA IA RB := sam.upR eB
  have w7 := (sA.tr (sB.wk (by omega) (by omega)) : sam 2 1306 S7 I7 R7 SA IA RB)
  have w4 := (s7.tr (w7.wk (by omega) (by omega)) : sam 2 1303 S4 I4 R4 SA IA RB)
  have w1 := (s4.tr (w4.wk (by omega) (by omega)) : sam 2 1300 S1 I1 R1 SA IA RB)
  have w0 := ((g1.sam (by omega)).tr (w1.wk (by omega) (by omega)) : sam 2 1287 S I R SA IA RB)
  have r1 : ∀ j, j < 6 → RB 1 j = R 1 j := fun j hj => by
    rw [eB, up2_sn (by omega), aA.2.2.2, e8, up2_sn (by omega), a7.2.2.2, e5, up2_sn (by omega), a4.2.2.2, e2, up2_sn (by omega), a1.2.2.2]
  have i1 : IA 1 = I 1 := by rw [aA.2.2.1, a7.2.2.1, a4.2.2.1, a1.2.2.1]
  have hF := Pre1.sm h (w0.wk (by omega) (by omega)) ⟨(w0 791 (by omega) (by omega)).1, (w0 791 (by omega) (by omega)).2.1⟩ ⟨tA.trans h.1.1.symm, i1⟩ r1
  obtain ⟨⟨q1, q2⟩, ⟨b0, b1, b2, b3, b4, b5⟩, ⟨c1, c2, c3, c4'⟩, ⟨d1, d2⟩, ⟨f1, f2, f3, f4⟩, ⟨k1, k2⟩, ⟨l1, l2⟩, m1, m2⟩ := hF
  have r6 : RB 1 6 = 1288 := by rw [eB, up2_sn (by omega), aA.2.2.2, e8, up2_sn (by omega), a7.2.2.2, e5, up2_sn (by omega), a4.2.2.2, e2, up2_ss]
  have r8 : RB 1 8 = 1301 := by rw [eB, up2_sn (by omega), aA.2.2.2, e8, up2_sn (by omega), a7.2.2.2, e5, up2_ss]
  have r9 : RB 1 9 = 1304 := by rw [eB, up2_sn (by omega), aA.2.2.2, e8, up2_ss]
  have r10 : RB 1 10 = 1307 := by rw [eB, up2_ss]
  refine hq SA IA RB nA (by omega) ⟨fun k => 12 + 3 * k, 1301, 1304, 1307, 3, 87, 119, ⟨⟨⟨by omega, by omega, Or.inl rfl, c3.1⟩, q1, ⟨b0, b1, b2, b3⟩, ⟨b4, b5, r6⟩, r8, r9, r10⟩, ⟨c1, c2⟩, d1, f1, k1, l1, ⟨⟨m1, m2⟩, fun k hk => ?_⟩, ?_, ⟨fun k hk => Or.inr ⟨k, hk, rfl⟩, Or.inl rfl, p4.sm (w4.wk (by omega) (by omega)), fun j k _ _ hne => ?_, fun k hk => ?_⟩, Or.inl ⟨rfl, rfl⟩, p7.sm (w7.wk (by omega) (by omega)), pA.sm (sB.wk (by omega) (by omega))⟩, ⟨⟨c4', c3⟩, fun k hk => d2 k hk, ⟨⟨f2, Nat.zero_le _, fun i hi => absurd hi (Nat.not_lt_zero _)⟩, f3, f4⟩, k2, ?_, ?_, fun k hk => ?_⟩⟩
  · have hk2 := hid k hk
    exact ⟨by rw [(w0 791 (by omega) (by omega)).2.2.2]; exact hk2.1, hk2.2.1.sm (w0.wk (by unfold idA; omega) (by unfold idA; omega))⟩
  · exact SlN.sm (a := 1288) (c := 4) sl1 (w1.wk (by omega) (by omega))
  · show 12 + 3 * j ≠ 12 + 3 * k; omega
  · show 12 + 3 * k ≠ 1301; omega
  · show IA 44 0 = 0; rw [l2]
  · rw [q2]; decide
  · have hk2 := hid k hk
    have si : sI I IA (idA k) := fun b hb1 hb2 => (w0 b (by unfold idA at hb1; omega) (by unfold idA at hb2; omega)).2.2.1
    exact ⟨hk2.2.2.2.sm si, Or.inl (by rw [si _ (by omega) (by omega)]; exact hk2.2.2.1)⟩
theorem clsInit {Q : Sh → MI → MR → Prop} (ht : sT S 1 = 9) (hn : sN S = 2) (hu : sU S ≤ 100) (hz : I 1 = fun _ => 0)
    (hq : ∀ S' I' R', sN S' = 1310 → sU S' ≤ 200000 → Cls S' I' R' ms0 → Q S' I' R') : CV G MX9_init [vR 1] S I R Q := by
  refine clsInit1 ht hn hu hz (fun S1 I1 R1 n1 u1 h1 => ?_)
  have loop : ∀ (q k : Nat) (S2 : Sh) (I2 : MI) (R2 : MR), 4 - k = q → k ≤ 4 → sN S2 = 792 + 124 * k → sU S2 ≤ 40000 + 15010 * k → Pre1 S2 I2 R2 → (∀ j, j < k → R2 791 j = idA j ∧ IdS S2 R2 (idA j) ∧ I2 (idA j) 0 = -1 ∧ IdZ I2 (idA j)) → LX9_init_67 G 1 (k : Int) S2 I2 R2 Q := by
    intro q
    induction q with
    | zero =>
      intro k S2 I2 R2 hq1 hk hN hU hP hid
      have ek : k = 4 := by omega
      rw [ek] at hN hU hid ⊢
      exact clsInit2 hN (by omega) hP hid hq
    | succ q ih =>
      intro k S2 I2 R2 hq1 hk hN hU hP hid
      have hP2 := hP
      obtain ⟨⟨q1, q2⟩, ⟨b0, b1, b2, b3, b4, b5⟩, hc, hd, he, hf, hg, m1, m2⟩ := hP
      refine bX9_init_67 (br_f (by omega) ⟨q1, fun S3 I3 R3 eS3 eI3 eR3 => ?_⟩)
      rw [hN, b5]
      have g3 : grw S2 I2 R2 S3 I3 R3 (792 + 124 * k) := by rw [eS3, eI3, eR3]; exact grw.new (by omega)
      have n3 : sN S3 = 792 + 124 * k + 1 := by rw [eS3, sN_new, hN]
      have u3 : sU S3 = sU S2 + 4 := by rw [eS3, sU_new]
      have t3 : sT S3 (792 + 124 * k) = 3 := by rw [eS3, ← hN]; exact nw_t
      clear eS3 eI3 eR3
      refine ⟨by rw [t3]; decide, idealInit t3 n3 (fun S4 I4 R4 n4 u4 g4 id4 i04 z4 => ?_)⟩
      have c4 := g3.tr g4
      have a791 := c4 791 (by omega)
      rw [a791.1, a791.2.1, m1, m2, show Int.toNat (k : Int) = k by omega, add1 (n := k) (by omega)]
      refine ⟨rfl, ⟨by omega, by omega⟩, id4.1, fun R5 e5 => ?_⟩
      have R5o : ∀ b, b ≠ 791 → R5 b = R4 b := fun b hb => by rw [e5]; exact up2_n hb
      have uk : sU S4 ≤ 40000 + 15010 * (k + 1) := by rw [Nat.mul_succ]; exact n15010 u4 u3 hU
      refine ih (k + 1) S4 I4 R5 (by omega) (by omega) (by omega) uk ?_ (fun j hj => ?_)
      · refine Pre1.sm hP2 (fun b hb1 hb2 => ?_) ⟨a791.1, a791.2.1⟩ ⟨(c4 1 (by omega)).1, (c4 1 (by omega)).2.2.1⟩ (fun j hj => by rw [R5o 1 (by omega), (c4 1 (by omega)).2.2.2])
        have c := c4 b (by omega)
        exact ⟨c.1, c.2.1, c.2.2.1, (R5o b (by omega)).trans c.2.2.2⟩
      · by_cases ej : j = k
        · rw [ej]
          refine ⟨by rw [e5, up2_ss]; rfl, ?_, i04, z4⟩
          have ii : IdS S4 R4 (idA k) := id4
          exact ii.sm (I := I4) (I' := I4) (fun b hb1 _ => ⟨rfl, rfl, rfl, R5o b (by unfold idA at hb1; omega)⟩)
        · have h2 := hid j (by omega)
          have si : sam (idA j) (idA j + 123) S2 I2 R2 S4 I4 R5 := fun b hb1 hb2 => by
            have c := c4 b (by unfold idA at hb2; omega)
            exact ⟨c.1, c.2.1, c.2.2.1, (R5o b (by unfold idA at hb1; omega)).trans c.2.2.2⟩
          have sI' : sI I2 I4 (idA j) := fun b hb1 hb2 => (si b hb1 (by omega)).2.2.1
          exact ⟨by rw [e5, up2_sn ej, a791.2.2.2]; exact h2.1, h2.2.1.sm si, by rw [sI' _ (by omega) (by omega)]; exact h2.2.2.1, h2.2.2.2.sm sI'⟩
  exact loop 4 0 S1 I1 R1 rfl (by omega) n1 (by omega) h1 (fun j hj => absurd hj (Nat.not_lt_zero _))
end CIN

