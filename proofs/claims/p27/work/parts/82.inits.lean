/-! ===== objects made ===== -/
/-- what stands below a cell stays -/
def grw (S : Sh) (I : MI) (R : MR) (S' : Sh) (I' : MI) (R' : MR) (a : Nat) : Prop := ∀ b, b < a → sT S' b = sT S b ∧ sL S' b = sL S b ∧ I' b = I b ∧ R' b = R b
theorem grw.rf {S : Sh} {I : MI} {R : MR} {a : Nat} : grw S I R S I R a := fun _ _ => ⟨rfl, rfl, rfl, rfl⟩
theorem grw.tr {S S1 S2 : Sh} {I I1 I2 : MI} {R R1 R2 : MR} {a : Nat} (h : grw S I R S1 I1 R1 a) (h2 : grw S1 I1 R1 S2 I2 R2 a) : grw S I R S2 I2 R2 a := fun b hb => ⟨(h2 b hb).1.trans (h b hb).1, (h2 b hb).2.1.trans (h b hb).2.1, (h2 b hb).2.2.1.trans (h b hb).2.2.1, (h2 b hb).2.2.2.trans (h b hb).2.2.2⟩
theorem grw.wk {S S' : Sh} {I I' : MI} {R R' : MR} {a c : Nat} (h : grw S I R S' I' R' a) (hc : c ≤ a) : grw S I R S' I' R' c := fun b hb => h b (by omega)
theorem grw.new {S : Sh} {I : MI} {R : MR} {t len u a : Nat} (ha : a ≤ sN S) : grw S I R (shNew S t len u) (mNew I (sN S) 0) (mNew R (sN S) 0) a := fun b hb => ⟨up1_n (by omega), up1_n (by omega), up1_n (by omega), up1_n (by omega)⟩
theorem grw.upR {S : Sh} {I : MI} {R R' : MR} {b k v a : Nat} (e : R' = up2 R b k v) (ha : a ≤ b) : grw S I R S I R' a := fun c hc => ⟨rfl, rfl, rfl, by rw [e]; exact up2_n (by omega)⟩
theorem grw.upI {S : Sh} {I I' : MI} {R : MR} {b k a : Nat} {v : Int} (e : I' = up2 I b k v) (ha : a ≤ b) : grw S I R S I' R a := fun c hc => ⟨rfl, rfl, by rw [e]; exact up2_n (by omega), rfl⟩
theorem grw.mul {S : Sh} {I : MI} {R : MR} {n k a : Nat} (ha : a ≤ sN S) : grw S I R (shMul S n k) (iMul I (sN S) n) (rMul R (sN S) n) a := fun b hb => ⟨by rw [sT_mul, if_neg (by omega), if_neg (by omega)], by rw [sL_mul, if_neg (by omega), if_neg (by omega)], if_neg (by omega), by unfold rMul; rw [if_neg (by omega), if_neg (by omega)]⟩
theorem PolyS.gr {S S' : Sh} {I I' : MI} {R R' : MR} {a c cap : Nat} (h : PolyS S R a cap) (g : grw S I R S' I' R' c) (hc : a + 2 < c) : PolyS S' R' a cap := by
  unfold PolyS
  rw [(g a (by omega)).1, (g a (by omega)).2.2.2, (g (a + 1) (by omega)).1, (g (a + 2) (by omega)).1, (g (a + 1) (by omega)).2.1, (g (a + 2) (by omega)).2.1]; exact h
theorem Has.gr {S S' : Sh} {I I' : MI} {R R' : MR} {a c : Nat} {L : List Tm} (h : Has I a L) (g : grw S I R S' I' R' c) (hc : a + 2 < c) : Has I' a L := by
  unfold Has
  rw [(g a (by omega)).2.2.1, (g (a + 1) (by omega)).2.2.1, (g (a + 2) (by omega)).2.2.1]; exact h
section INI
variable {G : Gl} {S : Sh} {I : MI} {R : MR}
theorem nw_t {t len u : Nat} : sT (shNew S t len u) (sN S) = t := up1_s _ _ _
theorem nw_l {t len u : Nat} : sL (shNew S t len u) (sN S) = len := up1_s _ _ _
theorem nw_o {t len u b : Nat} (h : b ≠ sN S) : sT (shNew S t len u) b = sT S b ∧ sL (shNew S t len u) b = sL S b := ⟨up1_n h, up1_n h⟩
theorem polyInit {Q : Sh → MI → MR → Prop} {a cap : Nat} (ht : sT S a = 5) (hn : sN S = a + 1) (hz : I a = fun _ => 0) (hc : cap ≤ 100000)
    (hq : ∀ S' I' R', sN S' = a + 3 → sU S' = sU S + (cap + cap) → grw S I R S' I' R' a → PolyS S' R' a cap → Has I' a [] → Q S' I' R') : CV G MX5_init [vR a, vI (cap : Int)] S I R Q := by
  refine bX5_init ⟨by rw [ht]; decide, cap, by omega, by omega, fun S1 I1 R1 eS eI eR => ?_⟩
  have t1 : sT S1 a = 5 := by rw [eS, (nw_o (by omega)).1]; exact ht
  refine ⟨t1, fun R2 e2 => ⟨cap, by omega, by omega, fun S3 I3 R3 eS3 eI3 eR3 => ?_⟩⟩
  have n1 : sN S1 = a + 2 := by rw [eS, sN_new]; omega
  have t3 : sT S3 a = 5 := by rw [eS3, (nw_o (by omega)).1]; exact t1
  refine ⟨t3, fun R4 e4 => hq S3 I3 R4 (by rw [eS3, sN_new]; omega) (by rw [eS3, sU_new, eS, sU_new]; omega) ?_ ?_ ?_⟩
  · have g1 : grw S I R S1 I1 R1 a := by rw [eS, eI, eR]; exact grw.new (by omega)
    have g3 : grw S1 I1 R2 S3 I3 R3 a := by rw [eS3, eI3, eR3]; exact grw.new (by omega)
    exact ((g1.tr (grw.upR e2 (Nat.le_refl _))).tr g3).tr (grw.upR e4 (Nat.le_refl _))
  · have ra : R4 a 0 = a + 1 ∧ R4 a 1 = a + 2 := by
      constructor
      · rw [e4, up2_sn (by decide), eR3]
        show up1 R2 (sN S1) (fun _ => 0) a 0 = _
        rw [up1_n (by omega), e2, up2_ss]; omega
      · rw [e4, up2_ss]; omega
    refine ⟨t3, ra.1, ra.2, ?_, ?_, ?_, ?_⟩
    · rw [eS3, (nw_o (by omega)).1, eS, ← hn]; exact nw_t
    · rw [eS3, ← n1]; exact nw_t
    · rw [eS3, (nw_o (by omega)).2, eS, ← hn]; exact nw_l
    · rw [eS3, ← n1]; exact nw_l
  · refine ⟨?_, fun i t ht => by cases ht⟩
    rw [eI3]
    show up1 I1 (sN S1) (fun _ => 0) a 2 = 0
    rw [up1_n (by omega), eI]
    show up1 I (sN S) (fun _ => 0) a 2 = 0
    rw [up1_n (by omega), hz]
theorem polys_spec {Q : Sh → MI → MR → Nat → Prop} {N n : Nat} (hN : sN S = N) (hn : n ≤ 100)
    (hq : ∀ S' I' R', sN S' = N + 1 + 3 * n → sU S' ≤ sU S + 124 * n → grw S I R S' I' R' N → SlN S' R' N n (fun k => N + 1 + 3 * k) → (∀ k, k < n → Has I' (N + 1 + 3 * k) []) → Q S' I' R' N) : CR G MX9_polys [vI (n : Int)] S I R Q := by
  refine bX9_polys ⟨n, by omega, by omega, fun S1 I1 R1 eS eI eR => ?_⟩
  rw [hN]
  have n1 : sN S1 = N + 1 := by rw [eS, sN_new, hN]
  have g1 : grw S I R S1 I1 R1 N := by rw [eS, eI, eR]; exact grw.new (by omega)
  have t1 : sT S1 N = 24 := by rw [eS, ← hN]; exact nw_t
  have l1 : sL S1 N = n := by rw [eS, ← hN]; exact nw_l
  have loop : ∀ (q k : Nat) (S2 : Sh) (I2 : MI) (R2 : MR), n - k = q → k ≤ n → sN S2 = N + 1 + 3 * k → sU S2 ≤ sU S + n + 123 * k → grw S I R S2 I2 R2 N → sT S2 N = 24 ∧ sL S2 N = n → (∀ j, j < k → R2 N j = N + 1 + 3 * j ∧ PolyS S2 R2 (N + 1 + 3 * j) 60 ∧ Has I2 (N + 1 + 3 * j) []) → LX9_polys_11 G N (k : Int) S2 I2 R2 Q := by
    intro q
    induction q with
    | zero =>
      intro k S2 I2 R2 hq1 hk hN2 hU hg ht hp
      have ek : k = n := by omega
      rw [ek] at hN2 hU hp
      refine bX9_polys_11 ⟨by rw [ht.1]; decide, ?_⟩
      rw [ht.2]
      exact br_t (by omega) (hq S2 I2 R2 hN2 (by omega) hg ⟨ht, fun j hj => ⟨(hp j hj).1, (hp j hj).2.1⟩⟩ (fun j hj => (hp j hj).2.2))
    | succ q ih =>
      intro k S2 I2 R2 hq1 hk hN2 hU hg ht hp
      refine bX9_polys_11 ⟨by rw [ht.1]; decide, ?_⟩
      rw [ht.2]
      refine br_f (by omega) (fun S3 I3 R3 eS3 eI3 eR3 => ?_)
      rw [hN2]
      have g3 : ∀ a, a ≤ N + 1 + 3 * k → grw S2 I2 R2 S3 I3 R3 a := fun a ha => by rw [eS3, eI3, eR3]; exact grw.new (by omega)
      have t3 : sT S3 (N + 1 + 3 * k) = 5 := by rw [eS3, ← hN2]; exact nw_t
      refine ⟨by rw [t3]; decide, polyInit (cap := 60) t3 (by rw [eS3, sN_new]; omega) (by rw [eI3, ← hN2]; exact up1_s _ _ _) (by omega) (fun S4 I4 R4 n4 u4 g4 p4 h4 => ?_)⟩
      have gg := (g3 _ (Nat.le_refl _)).tr g4
      have tN := gg N (by omega)
      rw [tN.1, tN.2.1, ht.1, ht.2, show Int.toNat (k : Int) = k by omega, add1 (by omega)]
      refine ⟨rfl, ⟨by omega, by omega⟩, p4.1, fun R5 e5 => ih (k + 1) S4 I4 R5 (by omega) (by omega) (by omega) ?_ ?_ ⟨tN.1.trans ht.1, tN.2.1.trans ht.2⟩ (fun j hj => ?_)⟩
      · rw [u4, eS3, sU_new]; omega
      · exact (hg.tr (gg.wk (by omega))).tr (grw.upR e5 (Nat.le_refl _))
      · have gR : grw S4 I4 R4 S4 I4 R5 N := grw.upR e5 (Nat.le_refl _)
        have R5o : ∀ b, b ≠ N → R5 b = R4 b := fun b hb => by rw [e5]; exact up2_n hb
        by_cases ej : j = k
        · rw [ej]
          refine ⟨by rw [e5, up2_ss], ?_, h4⟩
          unfold PolyS
          rw [R5o _ (by omega)]; exact p4
        · have hj2 := hp j (by omega)
          refine ⟨?_, ?_, hj2.2.2.gr gg (by omega)⟩
          · rw [e5, up2_sn ej, tN.2.2.2]; exact hj2.1
          · have := hj2.2.1.gr gg (by omega)
            unfold PolyS at this ⊢
            rw [R5o _ (by omega)]; exact this
  exact loop n 0 S1 I1 R1 (by omega) (by omega) (by omega) (by rw [eS, sU_new]; omega) g1 ⟨t1, l1⟩ (fun j hj => absurd hj (Nat.not_lt_zero _))
theorem equInit {Q : Sh → MI → MR → Prop} {e : Nat} (ht : sT S e = 2) (hn : sN S = e + 1)
    (hq : ∀ S' I' R', sN S' = e + 32 → sU S' ≤ sU S + 1300 → grw S I R S' I' R' e → EqS S' R' e → Q S' I' R') : CV G MX1_init [vR e] S I R Q := by
  refine bX1_init ⟨by rw [ht]; decide, fun S1 I1 R1 eS eI eR => ?_⟩
  rw [hn]
  have g1 : ∀ a, a ≤ e + 1 → grw S I R S1 I1 R1 a := fun a ha => by rw [eS, eI, eR]; exact grw.new (by omega)
  have t1 : sT S1 (e + 1) = 5 := by rw [eS, ← hn]; exact nw_t
  refine ⟨by rw [t1]; decide, polyInit (cap := 60) t1 (by rw [eS, sN_new]; omega) (by rw [eI, ← hn]; exact up1_s _ _ _) (by omega) (fun S2 I2 R2 n2 u2 g2 p2 h2 => ?_)⟩
  have c2 := (g1 _ (Nat.le_refl _)).tr g2
  have te2 : sT S2 e = 2 := (c2 e (by omega)).1.trans ht
  refine ⟨te2, fun R3 e3 => fun S4 I4 R4 eS4 eI4 eR4 => ?_⟩
  rw [n2]
  have g4 : ∀ a, a ≤ e + 4 → grw S2 I2 R3 S4 I4 R4 a := fun a ha => by rw [eS4, eI4, eR4]; exact grw.new (by omega)
  have t4 : sT S4 (e + 4) = 5 := by rw [eS4, ← n2]; exact nw_t
  have n4 : sN S4 = e + 5 := by rw [eS4, sN_new]; omega
  refine ⟨by rw [t4]; decide, polyInit (cap := 60) t4 n4 (by rw [eI4, ← n2]; exact up1_s _ _ _) (by omega) (fun S5 I5 R5 n5 u5 g5 p5 h5 => ?_)⟩
  have c5 := (g4 _ (Nat.le_refl _)).tr g5
  have te5 : sT S5 e = 2 := (c5 e (by omega)).1.trans te2
  refine ⟨te5, fun R6 e6 => polys_spec (N := e + 7) (n := 8) (by omega) (by omega) (fun S7 I7 R7 n7 u7 g7 sl7 h7 => ⟨(g7 e (by omega)).1.trans te5, fun R8 e8 => ?_⟩)⟩
  have uu : sU S4 = sU S2 + 3 := by rw [eS4, sU_new]
  have u1 : sU S1 = sU S + 3 := by rw [eS, sU_new]
  have R8o : ∀ b, b ≠ e → R8 b = R7 b := fun b hb => by rw [e8]; exact up2_n hb
  have R6o : ∀ b, b ≠ e → R6 b = R5 b := fun b hb => by rw [e6]; exact up2_n hb
  have R3o : ∀ b, b ≠ e → R3 b = R2 b := fun b hb => by rw [e3]; exact up2_n hb
  have r0 : R8 e 0 = e + 1 := by
    rw [e8, up2_sn (by decide), (g7 e (by omega)).2.2.2, e6, up2_sn (by decide), (c5 e (by omega)).2.2.2, e3, up2_ss]
  have r1 : R8 e 1 = e + 4 := by
    rw [e8, up2_sn (by decide), (g7 e (by omega)).2.2.2, e6, up2_ss]
  have r2 : R8 e 2 = e + 7 := by rw [e8, up2_ss]
  have te7 : sT S7 e = 2 := (g7 e (by omega)).1.trans te5
  refine hq S7 I7 R8 (by omega) (by omega) ?_ ⟨te7, ⟨r0, r1, r2⟩, ?_, ?_, sl7.1, fun k hk => ⟨?_, ?_⟩⟩
  · exact ((((c2.wk (by omega)).tr (grw.upR e3 (Nat.le_refl _))).tr (c5.wk (by omega))).tr (grw.upR e6 (Nat.le_refl _))).tr ((g7.wk (by omega)).tr (grw.upR e8 (Nat.le_refl _)))
  · have a1 : PolyS S2 R3 (e + 1) 60 := by unfold PolyS; rw [R3o _ (by omega)]; exact p2
    have a2 : PolyS S5 R5 (e + 1) 60 := a1.gr c5 (by omega)
    have a3 : PolyS S5 R6 (e + 1) 60 := by unfold PolyS; rw [R6o _ (by omega)]; exact a2
    have a4 : PolyS S7 R7 (e + 1) 60 := a3.gr g7 (by omega)
    unfold PolyS; rw [R8o _ (by omega)]; exact a4
  · have a3 : PolyS S5 R6 (e + 4) 60 := by unfold PolyS; rw [R6o _ (by omega)]; exact p5
    have a4 : PolyS S7 R7 (e + 4) 60 := a3.gr g7 (by omega)
    unfold PolyS; rw [R8o _ (by omega)]; exact a4
  · rw [R8o _ (by omega), (sl7.2 k hk).1]
  · have this : PolyS S7 R7 (e + 7 + 1 + 3 * k) 60 := (sl7.2 k hk).2
    have e9 : e + 7 + 1 + 3 * k = e + 8 + 3 * k := by omega
    rw [e9] at this
    unfold PolyS at this ⊢; rw [R8o _ (by omega)]; exact this
end INI

