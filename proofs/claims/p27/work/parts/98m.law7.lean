/-! ===== the law: ring, texts, divisions ===== -/
theorem isP7 : isP 7 := by
  refine ⟨by decide, fun d h2 hd hv => ?_⟩
  have hlt : d < 3 := by
    refine Nat.lt_of_not_le (fun z => ?_)
    have := Nat.mul_le_mul z z
    omega
  obtain rfl : d = 2 := by omega
  exact absurd hv (by decide)
section LW7
variable {G : Gl} {S : Sh} {I : MI} {R : MR} {s : Ms}
theorem cell_spec {Q : Sh → MI → MR → Int → Prop} {x1 : Int} (hG : gL G ≤ 260) (h1 : 0 ≤ x1) (hq : ∀ x, InR x → Q S I R x) : CI G ML_cell [vS, vI x1] S I R Q :=
  bL_cell ⟨hG, fun _ => hq _ (InR_toInt _), fun c => ⟨⟨h1, by omega⟩, hq _ (InR_toInt _)⟩⟩
theorem w32p {a b : Int} (h : 0 ≤ a ∧ a < 1000) (h2 : 0 ≤ b ∧ b < 1000) : w32 (a + b) = a + b := w32_id ⟨by omega, by omega⟩
set_option maxRecDepth 100000 in
/-- the asking of 5 divisions -/
theorem law_206 (hG : gL G ≤ 260) : ∀ (k i : Nat) (S : Sh) (I : MI) (R : MR) (s : Ms), 5 - i = k → i ≤ 5 → LwS S I R s → sN S ≤ 10000 + 14000 * i → sU S ≤ 210000 + 14000 * i → LL_law_206 G 1 (i : Int) S I R QL := by
  intro k
  induction k with
  | zero =>
    intro i S I R s h1 h2 h hN hU
    have last : ∀ (S' : Sh) (I' : MI) (R' : MR), frL 1 S I R S' I' R' → ∀ {S2 : Sh} {I2 : MI} {R2 : MR}, frL 1 S' I' R' S2 I2 R2 → QL S2 I2 R2 (vI 1) := fun S' I' R' f S2 I2 R2 f2 => by
      obtain ⟨a1, a2, a3, -⟩ := f
      obtain ⟨b1, b2, b3, -⟩ := f2
      exact ⟨rfl, by omega, by omega⟩
    refine bL_law_206 ⟨fun _ => ⟨h.t1, q_weak h (fun S1 I1 R1 x s1 h1' f1 k1 => ?_)⟩, fun c => absurd (by omega) c⟩
    obtain ⟨e1, e2⟩ := k1.2 (fun z => by have := z.1; omega)
    refine ⟨fun c => absurd e1 c, fun _ => ⟨h1'.t1, q_weak h1' (fun S2 I2 R2 x2 s2 h2' f2 k2 => ?_)⟩⟩
    obtain ⟨e3, e4⟩ := k2.2 (fun z => by have := z.2; omega)
    refine ⟨fun c => absurd e3 c, fun _ => ⟨h2'.t1, q_look h2' (fun y hy => ⟨fun c => ?_, fun _ => last _ _ _ f1 f2⟩)⟩⟩
    exfalso
    unfold lookA at hy
    rw [if_neg (by omega), if_neg (by omega), if_neg (by omega), if_neg (by omega), if_neg (by omega), if_neg (by omega), if_neg (by omega), if_neg (by omega)] at hy
    cases e : s2.dv with
    | none => rw [e] at hy; have hy : y = 0 := hy; omega
    | some z => obtain ⟨st, a, d⟩ := z; rw [e] at hy; have hy : y = 1 := hy; omega
  | succ k ih =>
    intro i S I R s h1 h2 h hN hU
    have hs := h.2
    have w11 : w32 (11 + (i : Int)) = 11 + (i : Int) := w32p (by omega) (by omega)
    have w16 : w32 (16 + (i : Int)) = 16 + (i : Int) := w32p (by omega) (by omega)
    have w1 : w32 ((i : Int) + 1) = ((i + 1 : Nat) : Int) := (w32p (by omega) (by omega)).trans (by omega)
    refine bL_law_206 ⟨fun c => by omega, fun _ => ?_⟩
    rw [w11, w16, w1]
    refine cell_spec hG (by omega) (fun x0 r0 => ?_)
    obtain ⟨p0, v0, v7⟩ := btw r0 (show (0 : Int) ≤ 0 by omega) (show (0 : Int) ≤ 7 by omega) (by omega)
    refine ⟨p0, h.t1, ?_⟩
    generalize vL_between x0 0 7 = v at v0 v7
    have es : ishl v 1 = 2 * v := by
      rw [ishl_eq v0 (by omega) (by omega) (by show v * 2 < _; omega)]
      show v * 2 = 2 * v
      omega
    rw [es]
    have nxt : ∀ (S' : Sh) (I' : MI) (R' : MR) (s' : Ms), LwS S' I' R' s' → frL 14000 S I R S' I' R' → LL_law_206 G 1 ((i + 1 : Nat) : Int) S' I' R' QL := fun S' I' R' s' l f => by
      obtain ⟨a1, a2, a3, -⟩ := f
      exact ih (i + 1) S' I' R' s' (by omega) (by omega) l (by omega) (by omega)
    refine q_weak h (fun S1 I1 R1 x s1 h1' f1 k1 => ?_)
    obtain ⟨r, hr, hn, hd⟩ := k1.1 ⟨by omega, by constructor <;> omega⟩
    cases r with
    | none =>
      obtain ⟨ex, e1⟩ := hn rfl
      rw [e1] at h1'
      refine ⟨fun c => absurd ex c, fun _ => ⟨h1'.t1, q_look h1' (fun y hy => ⟨fun c => absurd ?_ c, fun _ => ⟨h1'.t1, q_step h1' (fun z hz => ⟨fun _ => nxt _ _ _ _ h1' (f1.wk (by omega)), fun c => absurd ?_ c⟩)⟩⟩)⟩⟩
      · unfold lookA at hy
        rw [if_neg (by omega), if_neg (by omega), if_neg (by omega), if_neg (by omega), if_neg (by omega), if_neg (by omega), if_neg (by omega), if_neg (by omega)] at hy
        exact hy
      · exact hz
    | some d =>
      obtain ⟨ex, e1⟩ := hd d rfl
      rw [e1] at h1'
      have hset : SetO s (2 * v) (hld s.f (2 * v) 8) := ⟨⟨by omega, by omega, by unfold bitI; show 2 * v / 1 % 2 = 0; omega⟩, rfl⟩
      generalize hld s.f (2 * v) 8 = st at hset hr h1' e1
      have ha : AtD s (withD s (some (st, (0 : Int).toNat, d))) st d := ⟨⟨rfl, rfl, rfl⟩, fun _ _ => rfl, rfl⟩
      obtain ⟨hi, hb⟩ := DInv.all hs.1.1 hs.1.2 hs.2.2.1 41 _ d (DInv.beg hs.1.1 (a := (0 : Int).toNat) (st := st) (by decide) hs.2.2.2.1) hr
      have hi : DvI s st d := hi
      generalize withD s (some (st, (0 : Int).toNat, d)) = s1' at ha h1' e1
      have d40 : d.1 ≤ 40 := hi.1.1.1
      have d0 := ha.2.2
      have step : ∀ {x2 z : Int}, stepA s1' (-1) x2 z → (x2 = 0 → z = x) ∧ (x2 = 2 → z = 1) := fun {x2 z} hz => by
        unfold stepA at hz
        rw [d0] at hz
        have hz : z = if x2 = 0 then (d.1 : Int) else if x2 = 1 then (d.2.1 : Int) else if x2 = 2 then 1 else -1 := hz
        constructor
        · intro c; rw [if_pos c] at hz; rw [hz, ex]
        · intro c; rw [if_neg (by omega), if_neg (by omega), if_pos c] at hz; exact hz
      refine ⟨fun _ => ⟨fun c => by omega, fun _ => ⟨fun c => by omega, fun _ => ⟨h1'.t1, q_look h1' (fun y hy => ⟨fun c => absurd ?_ c, fun _ => ⟨h1'.t1, q_step h1' (fun z hz => ⟨fun c => absurd ((step hz).1 rfl) c, fun _ => ⟨h1'.t1, q_step h1' (fun z2 hz2 => ⟨fun c => absurd ((step hz2).2 rfl) c, fun _ => ?_⟩)⟩⟩)⟩⟩)⟩⟩⟩, fun c => absurd (fun e => by omega) c⟩
      · unfold lookA at hy
        rw [if_neg (by omega), if_neg (by omega), if_neg (by omega), if_neg (by omega), if_neg (by omega), if_neg (by omega), if_neg (by omega), if_neg (by omega), d0] at hy
        exact hy
      · rw [ex]
        refine isStepped_spec h1' ha hi hset.r (fun S2 I2 R2 h2' f2 => ⟨fun _ => ⟨h2'.t1, q_kept h2' (fun S3 I3 R3 y3 s3 h3 f3 k3 => ?_)⟩, fun c => absurd (by decide) c⟩)
        obtain ⟨e3, e4⟩ := keptA_in k3 ⟨_, d0⟩ (by omega) (by omega) (Or.inl (by omega))
        rw [e4] at h3
        obtain ⟨U, hU1⟩ := hi.2.2.1.1
        have kU : kq d 1 = (262143, 1) :: U := hU1
        have ha3 := ha.put (k := (5 : Int).toNat) (L := kq d 1) (by decide)
        have p5 : (put s1' (5 : Int).toNat (kq d 1)).f (5 : Int).toNat = (262143, 1) :: U := put_at.trans kU
        generalize put s1' (5 : Int).toNat (kq d 1) = s3' at h3 ha3 p5 e4
        rw [kU] at e3
        refine ⟨fun c => absurd c (by rw [e3, List.length_cons]; omega), fun _ => ⟨h3.t1, q_shape h3 (fun y hy => ⟨fun c => absurd ?_ c, fun _ => ⟨h3.t1, q_term h3 (fun z hz => ⟨fun _ => ?_, fun c => absurd ?_ c⟩)⟩⟩)⟩⟩
        · unfold shapeA at hy
          rw [if_pos ⟨by omega, by omega⟩, if_neg (by omega), if_neg (by omega), if_neg (by omega), if_neg (by omega), if_pos rfl, p5] at hy
          exact hy.trans (if_pos (show dg 262143 = 0 by decide))
        · refine isWhole_spec h3 ha3 hset hi hs (fun S4 I4 R4 s4 h4 f4 ha4 => ⟨fun c => absurd c (by decide), fun _ => isLeft_spec h4 ha4 hset hi hb (fun S5 I5 R5 s5 h5 f5 ha5 => ⟨fun _ => ⟨h5.t1, q_look h5 (fun w hw => ?_)⟩, fun c => absurd (by decide) c⟩)⟩)
          refine cell_spec hG (by omega) (fun x6 r6 => ?_)
          have ew : w = bd s.n := by
            unfold lookA at hw
            rw [if_neg (by omega), if_neg (by omega), if_neg (by omega), if_neg (by omega), if_neg (by omega), if_pos rfl, ha5.1.2.1] at hw
            exact hw
          have bdn := bd_n s.n
          rw [ew]
          obtain ⟨p6, v6, v8⟩ := btw r6 (show (0 : Int) ≤ 1 by omega) (show (1 : Int) ≤ bd s.n by omega) (by omega)
          refine ⟨p6, isRest_spec hset ⟨v6, v8⟩ h5 ha5 (fun S7 I7 R7 s7 h7 f7 ha7 => ⟨fun _ => nxt _ _ _ _ h7 ?_, fun c => absurd (by decide) c⟩)⟩
          exact (((((f1.tr f2 (c := 2) (by omega)).tr f3 (c := 3) (by omega)).tr f4 (c := 23) (by omega)).tr f5 (c := 24) (by omega)).tr f7 (by omega))
        · unfold termA at hz
          rw [if_pos ⟨by omega, by omega⟩, if_neg (by omega), p5, if_pos ⟨by omega, by rw [List.length_cons]; omega⟩] at hz
          exact hz
/-- the texts of slots 0 to 3 -/
theorem law_111 (hG : gL G ≤ 260) {n : Int} (hn : n = 1 ∨ n = 2 ∨ n = 3) : ∀ (k i : Nat) (S : Sh) (I : MI) (R : MR) (s : Ms), 4 - i = k → i ≤ 4 → LwS S I R s → s.n = n → s.tn = 0 → sN S ≤ 1400 + 1100 * i → sU S ≤ 200100 + 1100 * i → LL_law_111 G 1 n (i : Int) S I R QL := by
  intro k
  induction k with
  | zero =>
    intro i S I R s h1 h2 h hn0 ht hN hU
    exact bL_law_111 ⟨fun _ => law_206 hG 5 0 S I R s rfl (by omega) h (by omega) (by omega), fun c => absurd (by omega) c⟩
  | succ k ih =>
    intro i S I R s h1 h2 h hn0 ht hN hU
    have w2 : w32 (2 * (i : Int)) = 2 * (i : Int) := w32_id ⟨by omega, by omega⟩
    have w3 : w32 (3 + 2 * (i : Int)) = 3 + 2 * (i : Int) := w32p (by omega) (by omega)
    have w4 : w32 (4 + 2 * (i : Int)) = 4 + 2 * (i : Int) := w32p (by omega) (by omega)
    have w1 : w32 ((i : Int) + 1) = ((i + 1 : Nat) : Int) := (w32p (by omega) (by omega)).trans (by omega)
    refine bL_law_111 ⟨fun c => by omega, fun _ => ?_⟩
    rw [w2, w3, w4, w1]
    refine cell_spec hG (by omega) (fun xa ra => cell_spec hG (by omega) (fun xb rb => cell_spec hG (by omega) (fun xc rc => ?_)))
    obtain ⟨p1, v1, v4⟩ := btw (x := ishr xc 20) (InR_toInt _) (show (0 : Int) ≤ 1 by omega) (show (1 : Int) ≤ 4 by omega) (by omega)
    refine ⟨p1, ?_⟩
    generalize vL_between (ishr xc 20) 1 4 = T at v1 v4
    obtain ⟨t, rfl⟩ : ∃ t : Nat, T = ((t + 1 : Nat) : Int) := ⟨(T - 1).toNat, by omega⟩
    have go : ∀ low : Int, 0 ≤ low → low ≤ 3 → CR G ML_drawn [vI xa, vI xb, vI n, vI ((t + 1 : Nat) : Int), vI low] S I R (fun S186 I186 R186 x186_ => CI G ML_poly [vR 1, vI (i : Int), vR x186_] S186 I186 R186 (fun S189 I189 R189 x189_ => (0 ≤ x189_ → LL_law_111 G 1 n ((i + 1 : Nat) : Int) S189 I189 R189 QL) ∧ (¬ 0 ≤ x189_ → QL S189 I189 R189 (vI 0)))) := by
      intro low l0 l3
      refine drawn_spec hn (by omega) ⟨l0, l3⟩ (fun S1 I1 R1 tx L hT hst g n1 n2 u2 => ?_)
      have hl1 : LwS S1 I1 R1 s := h.gr g n1
      refine poly_spec hn (by omega) hT (by omega) hl1 hn0 ht (hst.wk h.n) (fun S2 I2 R2 s2 y h2' f2 hs2 ht2 hy => ⟨fun _ => ?_, fun c => absurd hy c⟩)
      obtain ⟨a1, a2, a3, -⟩ := f2
      exact ih (i + 1) S2 I2 R2 s2 (by omega) (by omega) h2' (hs2.2.1.trans hn0) ht2 (by omega) (by omega)
    refine ⟨fun _ => cell_spec hG (by omega) (fun xd rd => ?_), fun _ => go 1 (by omega) (by omega)⟩
    obtain ⟨p2, v2, v3⟩ := btw (x := ishr xd 20) (InR_toInt _) (show (0 : Int) ≤ 0 by omega) (show (0 : Int) ≤ 3 by omega) (by omega)
    exact ⟨p2, go _ v2 v3⟩
/-- the ring, its weights -/
theorem law_42 (hG : gL G ≤ 260) {n p : Int} (hn : n = 1 ∨ n = 2 ∨ n = 3) (hp : p = 32003 ∨ p = 7) (h : LwS S I R s) (ht : s.tn = 0) (hN : sN S ≤ 1310) (hU : sU S ≤ 200000) : LL_law_42 G 1 n p n 1 S I R QL := by
  have ok : okRing n p := by
    refine ⟨by omega, by omega, ?_⟩
    rcases hp with rfl | rfl
    · exact isP0
    · exact isP7
  refine bL_law_42 ⟨h.t1, q_ring h (fun S1 I1 R1 x s1 h1 f1 k1 => ?_)⟩
  obtain ⟨e1, e2⟩ := k1.1 ok
  have d1 : s1.dv = none := by rw [e2]; rfl
  have n1 : s1.n = n := by rw [e2]; rfl
  have t1 : s1.tn = 0 := by rw [e2]; exact ht
  refine ⟨fun c => by omega, fun _ => ⟨h1.t1, q_step h1 (fun y hy => ⟨fun c => absurd ?_ c, fun _ => ⟨h1.t1, q_kept h1 (fun S2 I2 R2 z s2 h2 f2 k2 => ?_)⟩⟩)⟩⟩
  · unfold stepA at hy
    rw [d1] at hy
    exact hy
  · obtain ⟨e3, e4⟩ := k2.2 (Or.inl d1)
    refine ⟨fun _ => cell_spec hG (by omega) (fun w r => ?_), fun c => absurd e3 c⟩
    obtain ⟨p1, a1, b1⟩ := btw r (show (0 : Int) ≤ 1 by omega) (show (1 : Int) ≤ 3 by omega) (by omega)
    obtain ⟨p2, a2, b2⟩ := btw (x := ishr w 3) (InR_toInt _) (show (0 : Int) ≤ 1 by omega) (show (1 : Int) ≤ 3 by omega) (by omega)
    obtain ⟨p3, a3, b3⟩ := btw (x := ishr w 6) (InR_toInt _) (show (0 : Int) ≤ 1 by omega) (show (1 : Int) ≤ 3 by omega) (by omega)
    refine ⟨p1, p2, p3, h2.t1, q_weights h2 (fun S3 I3 R3 v s3 h3 f3 k3 => ?_)⟩
    obtain ⟨e5, e6⟩ := k3.1 ⟨⟨a1, by omega⟩, ⟨a2, by omega⟩, ⟨a3, by omega⟩⟩
    have n3 : s3.n = n := by rw [e6, ← n1, e4]; rfl
    have t3 : s3.tn = 0 := by rw [e6, ← t1, e4]; rfl
    have f := ((f1.tr f2 (c := 2) (by omega)).tr f3 (c := 3) (by omega))
    obtain ⟨c1, c2, c3, -⟩ := f
    exact ⟨fun _ => law_111 hG hn 4 0 S3 I3 R3 s3 rfl (by omega) h3 n3 t3 (by omega) (by omega), fun c => absurd (by omega) c⟩
end LW7
theorem law_E : ∀ G : Gl, gL G ≤ 260 → E G M_law 0 (lsArgs 0 [vS]) [] S0 I0 R0 QL := by
  intro G hG
  refine bL_law (fun S1 I1 R1 eS eI eR => ?_)
  have n0 : sN S0 = 1 := rfl
  rw [n0]
  have t1 : sT S1 1 = 9 := by rw [eS]; exact nw_t (S := S0)
  have n1 : sN S1 = 2 := by rw [eS]; rfl
  have u1 : sU S1 ≤ 100 := by rw [eS]; show (0 + 11 : Nat) ≤ 100; decide
  have z1 : I1 1 = fun _ => 0 := by rw [eI]; exact up1_s _ _ _
  refine ⟨by rw [t1]; decide, clsInit t1 n1 u1 z1 (fun S4 I4 R4 n4 u4 hC => cell_spec hG (by omega) (fun x r => ?_))⟩
  obtain ⟨p1, a1, b1⟩ := btw r (show (0 : Int) ≤ 1 by omega) (show (1 : Int) ≤ 3 by omega) (by omega)
  refine ⟨p1, cell_spec hG (by omega) (fun y r2 => ?_)⟩
  obtain ⟨p2, a2, b2⟩ := btw r2 (show (0 : Int) ≤ 0 by omega) (show (0 : Int) ≤ 2 by omega) (by omega)
  have h : LwS S4 I4 R4 ms0 := ⟨hC, ms0_ok⟩
  exact ⟨p2, fun _ => law_42 hG (by omega) (Or.inl rfl) h rfl (by omega) u4, fun _ => law_42 hG (by omega) (Or.inr rfl) h rfl (by omega) u4⟩
