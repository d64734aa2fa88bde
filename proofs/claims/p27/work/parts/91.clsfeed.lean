section CLR2
variable {G : Gl} {S : Sh} {I : MI} {R : MR} {P : Nat → Nat} {sp pd ps nu nw af : Nat} {s : Ms}
theorem ringLoop {Q : Sh → MI → MR → Int → Prop} {I1 : MI} (h : ClsS S R P sp pd ps nu nw af) (hq : ∀ I', (∀ b, (b < 12 ∨ (45 ≤ b ∧ b ≤ 791) ∨ (36 ≤ b ∧ b ≤ 43) ∨ 1304 ≤ b) → I' b = I1 b) → (∀ j, j < 8 → Has I' (P j) []) → I' 44 0 = 0 → (∀ j, j < 4 → I' (idA j) 0 = -1) → (∀ j, j < 4 → sI2 I1 I' (idA j)) → Q S I' R 1) : LX9_ring_64 G 1 11 ((8 : Nat) : Int) 0 S I1 R Q := by
  have hP := fun k hk => (h.okP k hk).r
  have hne : ∀ j k, j < 8 → k < 8 → j ≠ k → P j + 2 < P k ∨ P k + 2 < P j := fun j k hj hk hjk => (h.okP j hj).ap (h.okP k hk) (h.2.2.2.2.2.2.2.2.1.2.2.2.1 j k hj hk hjk)
  have loop : ∀ (q c : Nat) (I2 : MI), 8 - c = q → c ≤ 8 → offL P I1 I2 → (∀ j, j < c → Has I2 (P j) []) → LX9_ring_64 G 1 11 ((8 : Nat) : Int) (c : Int) S I2 R Q := by
    intro q
    induction q with
    | zero =>
      intro c I2 hq1 hc ol hd
      refine bX9_ring_64 (br_t (by omega) ⟨h.t1, forget_spec h (fun I3 o3 z3 i3 => ?_)⟩)
      have g2 : ∀ b, (b < 12 ∨ (36 ≤ b ∧ b ≤ 1300) ∨ 1304 ≤ b) → I2 b = I1 b := fun b hb => ol b (fun j hj => by have := hP j hj; omega)
      have g3 : ∀ b, b ≠ 44 → (b < 792 ∨ 1287 < b) → I3 b = I2 b := fun b h1 h2 => o3 b h1 (fun j hj => by unfold idA; omega)
      refine hq I3 (fun b hb => ?_) (fun k hk => (hd k (by omega)).same (fun b h1 h2 => ?_)) z3 i3 (fun j hj b h1 h2 => ?_)
      · rw [g3 b (by omega) (by omega), g2 b (by omega)]
      · have := hP k hk
        exact g3 b (by omega) (by omega)
      · unfold idA at h1 h2
        rw [o3 b (by omega) (fun k hk => by unfold idA; omega), g2 b (by omega)]
    | succ q ih =>
      intro c I2 hq1 hc ol hd
      have c8 : c < 8 := by omega
      have sc := h.sl.2 c c8
      refine bX9_ring_64 (br_f (by omega) ?_)
      rw [h.sl.1.1, h.sl.1.2, show Int.toNat (c : Int) = c by omega, sc.1, add1 (n := c) (by omega)]
      refine ⟨rfl, ⟨by omega, by omega⟩, sc.2.1, clear_spec sc.2 (fun I3 o3 h3 => ih (c + 1) I3 (by omega) (by omega) (fun b hb => (o3 b (by have := hb c c8; omega) (by have := hb c c8; omega) (by have := hb c c8; omega)).trans (ol b hb)) (fun j hj => ?_))⟩
      by_cases cj : j = c
      · rw [cj]; exact h3
      · have := hne j c (by omega) c8 cj
        exact (hd j (by omega)).same (fun b _ _ => o3 b (by omega) (by omega) (by omega))
  exact loop 8 0 I1 rfl (by omega) (fun _ _ => rfl) (fun j hj => absurd hj (Nat.not_lt_zero _))
theorem cls_ring {Q : Sh → MI → MR → Int → Prop} (h : ClsS S R P sp pd ps nu nw af) (hN : 1310 ≤ sN S) (hv : ClsV S I P nu nw s) {x1 x2 : Int} (hq : ∀ S' I' R' x s', Cls S' I' R' s' → frC S I R S' I' R' → ringA s x1 x2 x s' → Q S' I' R' x) : CI G MX9_ring [vR 1, vI x1, vI x2] S I R Q := by
  have no : ¬ okRing x1 x2 → Q S I R 0 := fun c => hq S I R 0 s ⟨_, _, _, _, _, _, _, h, hv⟩ frC.rf ⟨fun z => absurd z c, fun _ => ⟨rfl, rfl⟩⟩
  refine bX9_ring ⟨fun c => no (fun z => by have := z.1; omega), fun c => ⟨fun d => no (fun z => by have := z.1; omega), fun d => isPrime9_spec (fun pp => br_t (by decide) ?_) (fun np => br_f (by decide) (no (fun z => np ⟨by omega, z.2⟩)))⟩⟩
  have hx1 : 1 ≤ x1 ∧ x1 ≤ 3 := by omega
  have hok : okRing x1 x2 := ⟨hx1, pp.2⟩
  rw [h.r0]
  refine ⟨h.t1, h.ring.1, fun I1 e1 => fun S2 I2 R2 eS eI eR => ?_⟩
  have t2 : sT S2 (sN S) = 4 := by rw [eS]; exact nw_t
  have to : ∀ b, b < sN S → sT S2 b = sT S b := fun b hb => by rw [eS]; exact (nw_o (by omega)).1
  refine ⟨by rw [t2]; decide, numInit t2 pp.2.1 (fun I3 o3 nm3 => ⟨(to 2 (by omega)).trans h.ring.1, fun R4 e4 => ?_⟩)⟩
  have hS4 : ClsS S2 R4 P sp pd ps (sN S) nw af := h.toRing hN (by rw [e4, eR]) eS
  have nS2 : sN S2 = sN S + 1 := by rw [eS, sN_new]
  have u2 : sU S2 = sU S + 1 := by rw [eS, sU_new]
  have rr : ∀ b, 1310 ≤ b → b < sN S → R4 b = R b := fun b h1 h2 => by rw [e4, up2_n (by omega), eR]; exact up1_n (by omega)
  have tt : ∀ b, b < sN S → sT S2 b = sT S b ∧ sL S2 b = sL S b := fun b hb => by rw [eS]; exact nw_o (by omega)
  rw [hS4.r0]
  refine ⟨hS4.t1, hS4.ring.1, ?_⟩
  have f3 : I3 2 0 = x1 := by rw [o3 2 (by omega), eI, show mNew I1 (sN S) 0 2 = I1 2 from up1_n (by omega), e1, up2_ss]
  have g3 : ∀ b, b ≠ 2 → b < sN S → I3 b = I b := fun b h1 h2 => by rw [o3 b (by omega), eI, show mNew I1 (sN S) 0 b = I1 b from up1_n (by omega), e1, up2_n h1]
  refine weigh_spec (w := fun _ => 1) hS4.ring f3 hx1 (fun i hi => (⟨by decide, by decide⟩ : (1 : Int) ≤ 1 ∧ (1 : Int) ≤ 4)) (fun I5 o5 rt5 => ⟨hS4.t1, ?_⟩)
  rw [hS4.r1, hS4.sl.1.1, hS4.sl.1.2]
  have g5 : ∀ b, (b < 2 ∨ 10 < b ∨ b = 3) → I5 b = I3 b := fun b hb => o5.1 b (by omega) (by omega)
  refine ⟨by omega, ringLoop hS4 (fun I6 o6 h6 z6 i6 s6 => hq S2 I6 R4 1 _ ⟨_, _, _, _, _, _, _, hS4, ClsV.fresh (s := s) hv (rt5.o (o6 2 (by omega)) (fun b _ _ => o6 b (by omega))) ?_ h6 (fun b hb => ?_) z6 i6 (fun j hj b h1 h2 => ?_)⟩ ⟨by omega, by omega, by omega, fun b h1 h2 => ⟨(tt b h2).1, (tt b h2).2, ?_, rr b h1 h2⟩⟩ ⟨fun _ => ⟨rfl, rfl⟩, fun z => absurd hok z⟩)⟩
  · have e : ((x2.toNat : Nat) : Int) = x2 := by have := pp.2.1; omega
    rw [e]
    exact nm3.atI (by rw [o6 _ (by omega), g5 _ (by omega)])
  · rw [o6 b (by omega), g5 b (by omega), g3 b (by omega) (by omega)]
  · have q : b < 1310 ∧ 792 < b := by unfold idA at h1 h2; omega
    rw [s6 j hj b h1 h2, g5 b (by omega), g3 b (by omega) (by omega)]
  · rw [o6 b (by omega), g5 b (by omega), g3 b (by omega) (by omega)]
theorem take_spec {Q : Sh → MI → MR → Prop} {I0 : MI} {n : Nat} {x : Int} (hT : TpS S R 36) (hn : n ≤ 196) (h1 : I0 36 1 = (n : Int)) (hx : InR x)
    (hq : ∀ I', (∀ b, b ≠ 36 → b ≠ 37 → I' b = I0 b) → (∀ j, j ≠ 1 → I' 36 j = I0 36 j) → (∀ i, i < n → I' 37 i = I0 37 i) → (∀ i, i < 4 → I' 37 (n + i) = byt x (24 - 8 * i)) → I' 36 1 = ((n + 4 : Nat) : Int) → Q S I' R) : CV G MX7_take [vR 36, vI x] S I0 R Q := by
  have loop : ∀ (q c : Nat) (J : MI), 4 - c = q → c ≤ 4 → (∀ b, b ≠ 36 → b ≠ 37 → J b = I0 b) → (∀ j, j ≠ 1 → J 36 j = I0 36 j) → (∀ i, i < n → J 37 i = I0 37 i) → (∀ i, i < c → J 37 (n + i) = byt x (24 - 8 * i)) → J 36 1 = ((n + c : Nat) : Int) → LX7_take_3 G 36 x (24 - 8 * (c : Int)) S J R Q := by
    intro q
    induction q with
    | zero =>
      intro c J hq1 hc k1 k2 k3 k4 k5
      have ec : c = 4 := by omega
      rw [ec] at k4 k5 ⊢
      exact bX7_take_3 (br_t (by omega) (hq J k1 k2 k3 k4 k5))
    | succ q ih =>
      intro c J hq1 hc k1 k2 k3 k4 k5
      have c4 : c < 4 := by omega
      refine bX7_take_3 (br_f (by omega) ⟨hT.1, ?_⟩)
      have hl : sL S 37 = 200 := hT.2.2.1.2.1
      rw [k5, show R 36 0 = 37 from hT.2.1.1]
      refine br_f (by omega) ⟨hT.2.2.1.1, ⟨by omega, by rw [hl]; omega⟩, fun J1 e1 => fun J2 e2 => ?_⟩
      have eb : iand (iushr x (24 - 8 * (c : Int))) 255 = byt x (24 - 8 * c) := by
        have := byt_u (x := x) (k := 24 - 8 * c) hx (by omega)
        rw [show (24 - 8 * (c : Int)) = ((24 - 8 * c : Nat) : Int) by omega]; exact this
      rw [eb, show Int.toNat ((n + c : Nat) : Int) = n + c by omega] at e1
      have e36 : J1 36 = J 36 := by rw [e1]; exact up2_n (by decide)
      rw [e36, k5, w32_id (x := ((n + c : Nat) : Int) + 1) (by omega)] at e2
      rw [w32_id (x := 24 - 8 * (c : Int) + -8) (by omega), show 24 - 8 * (c : Int) + -8 = 24 - 8 * ((c + 1 : Nat) : Int) by omega]
      have j37 : ∀ i, i ≠ n + c → J2 37 i = J 37 i := fun i hi => by rw [e2, up2_n (by decide), e1, up2_sn hi]
      refine ih (c + 1) J2 (by omega) (by omega) (fun b b1 b2 => by rw [e2, up2_n b1, e1, up2_n b2]; exact k1 b b1 b2) (fun j hj => by rw [e2, up2_sn hj, e36]; exact k2 j hj) (fun i hi => by rw [j37 i (by omega)]; exact k3 i hi) (fun i hi => ?_) (by rw [e2, up2_ss]; omega)
      by_cases ci : i = c
      · rw [ci, e2, up2_n (by decide), e1, up2_ss]
      · rw [j37 (n + i) (by omega)]; exact k4 i (by omega)
  exact bX7_take (loop 4 0 I0 rfl (by omega) (fun _ _ _ => rfl) (fun _ _ => rfl) (fun _ _ => rfl) (fun i hi => absurd hi (Nat.not_lt_zero _)) h1)
theorem byt_r (x : Int) (k : Nat) : 0 ≤ byt x k ∧ byt x k < 256 := by unfold byt; omega
theorem cls_feed {Q : Sh → MI → MR → Int → Prop} (h : ClsS S R P sp pd ps nu nw af) (hs : MsOK s) (hv : ClsV S I P nu nw s) {a b c d e : Int} (ra : InR a) (rb : InR b) (rc : InR c) (rd : InR d) (re : InR e) (hq : ∀ S' I' R' x s', Cls S' I' R' s' → frC S I R S' I' R' → feedA s a b c d e x s' → Q S' I' R' x) : CI G MX9_feed [vR 1, vI a, vI b, vI c, vI d, vI e] S I R Q := by
  refine bX9_feed ?_
  have tb := hv.tp.1
  have hP := fun k hk => (h.okP k hk).r
  have nr := h.nr
  have t7 := h.tp.1
  have h1 := h.t1
  rw [h.r2, tb.1, w32_id (x := (s.tn : Int) + 20) (by have := tb.2.1; omega)]
  refine ⟨h1, t7, fun z => ?_, fun z => hq S I R _ s ⟨_, _, _, _, _, _, _, h, hv⟩ frC.rf ⟨fun y => absurd y (by omega), fun _ => ⟨rfl, rfl⟩⟩⟩
  refine take_spec (n := s.tn) h.tp (by omega) tb.1 ra (fun I1 a1 a2 a3 a4 a5 => ?_)
  rw [h.r2]
  refine ⟨h1, t7, take_spec (n := s.tn + 4) h.tp (by omega) a5 rb (fun I2 b1 b2 b3 b4 b5 => ?_)⟩
  rw [h.r2]
  refine ⟨h1, t7, take_spec (n := s.tn + 4 + 4) h.tp (by omega) b5 rc (fun I3 c1 c2 c3 c4 c5 => ?_)⟩
  rw [h.r2]
  refine ⟨h1, t7, take_spec (n := s.tn + 4 + 4 + 4) h.tp (by omega) c5 rd (fun I4 d1 d2 d3 d4 d5 => ?_)⟩
  rw [h.r2]
  refine ⟨h1, t7, take_spec (n := s.tn + 4 + 4 + 4 + 4) h.tp (by omega) d5 re (fun I5 e1 e2 e3 e4 e5 => ?_)⟩
  rw [h.r2]
  refine ⟨h1, t7, ?_⟩
  have o : ∀ b, b ≠ 36 → b ≠ 37 → I5 b = I b := fun b n1 n2 => (e1 b n1 n2).trans ((d1 b n1 n2).trans ((c1 b n1 n2).trans ((b1 b n1 n2).trans (a1 b n1 n2))))
  have o36 : ∀ j, j ≠ 1 → I5 36 j = I 36 j := fun j n1 => (e2 j n1).trans ((d2 j n1).trans ((c2 j n1).trans ((b2 j n1).trans (a2 j n1))))
  rw [e5]
  refine hq S I5 R _ _ ⟨_, _, _, _, _, _, _, h, ?_⟩ (frC.i (fun b hb => o b (by omega) (by omega))) ⟨fun _ => ⟨by omega, rfl⟩, fun y => absurd (by omega) y⟩
  refine ⟨⟨hv.rtI (fun b _ _ => o b (by omega) (by omega)), hv.nm.atI (o _ (by omega) (by omega))⟩, fun k hk => (hv.f k hk).same (fun b _ _ => o b (by have := hP k hk; omega) (by have := hP k hk; omega)), ⟨⟨by rw [e5]; rfl, by show s.tn + 20 ≤ 200; omega, fun i hi => ?_⟩, ?_, ?_⟩, hv.txI (o _ (by omega) (by omega)) (o _ (by omega) (by omega)), (hv.dvI h hs (fun b _ _ => o b (by omega) (by omega)) : ClD I5 nw s.dv), by rw [o 1 (by omega) (by omega)]; exact hv.nx, (hv.idI hs (fun b _ _ => o b (by omega) (by omega)) : ∀ k, k < 4 → ClI I5 s (idA k))⟩
  · have hi2 : i < s.tn + 20 := hi
    show I5 (36 + 1) i = fdB s.b s.tn a b c d e i ∧ 0 ≤ fdB s.b s.tn a b c d e i ∧ fdB s.b s.tn a b c d e i < 256
    unfold fdB wd
    by_cases q0 : i < s.tn
    · rw [if_pos q0]
      have := tb.2.2 i q0
      refine ⟨?_, this.2⟩
      rw [show I5 (36 + 1) i = I5 37 i from rfl, e3 i (by omega), d3 i (by omega), c3 i (by omega), b3 i (by omega), a3 i (by omega)]
      exact this.1
    · rw [if_neg q0]
      refine ⟨?_, byt_r _ _⟩
      show I5 37 i = _
      obtain ⟨j, ej⟩ : ∃ j, i = s.tn + j := ⟨i - s.tn, by omega⟩
      rw [ej, show s.tn + j - s.tn = j by omega]
      by_cases q1 : j < 4
      · rw [if_pos q1, e3 _ (by omega), d3 _ (by omega), c3 _ (by omega), b3 _ (by omega), a4 j q1, show j % 4 = j by omega]
      · rw [if_neg q1]
        by_cases q2 : j < 8
        · rw [if_pos q2, e3 _ (by omega), d3 _ (by omega), c3 _ (by omega), show s.tn + j = s.tn + 4 + (j - 4) by omega, b4 (j - 4) (by omega), show j % 4 = j - 4 by omega]
        · rw [if_neg q2]
          by_cases q3 : j < 12
          · rw [if_pos q3, e3 _ (by omega), d3 _ (by omega), show s.tn + j = s.tn + 4 + 4 + (j - 8) by omega, c4 (j - 8) (by omega), show j % 4 = j - 8 by omega]
          · rw [if_neg q3]
            by_cases q4 : j < 16
            · rw [if_pos q4, e3 _ (by omega), show s.tn + j = s.tn + 4 + 4 + 4 + (j - 12) by omega, d4 (j - 12) (by omega), show j % 4 = j - 12 by omega]
            · rw [if_neg q4, show s.tn + j = s.tn + 4 + 4 + 4 + 4 + (j - 16) by omega, e4 (j - 16) (by omega), show j % 4 = j - 16 by omega]
  · rw [o36 2 (by decide)]; exact hv.tp.2.1
  · rw [o36 3 (by decide)]; exact hv.tp.2.2
end CLR2

