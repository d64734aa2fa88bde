/-! ===== the class: weak, kept, poly ===== -/
section CLW
variable {G : Gl} {S : Sh} {I : MI} {R : MR} {P : Nat → Nat} {sp pd ps nu nw af : Nat} {s : Ms}
theorem ClsS.toDiv {R' : MR} {nw' af' : Nat} (h : ClsS S R P sp pd ps nu nw af) (e : RdD R R' 44) (hd : DivS S R' 44 nw' af') : ClsS S R' P sp pd ps nu nw' af' := by
  obtain ⟨⟨h1, h2, h3, h4, h5, h6⟩, ⟨hr, hr1⟩, hsl, htp, htx, hdv, ⟨hia, hid⟩, hso, ⟨hP, hsp, hspp, hne, hnes⟩, hpd, hpd1, hps1⟩ := h
  have o : ∀ b, b ≠ 44 → R' b = R b := fun b n1 => e b n1
  have hPr := fun j (hj : j < 8) => (hP j hj).r
  have sr := hsp.r
  have r1 := o 1 (by decide)
  exact ⟨⟨h1, h2, by rw [r1]; exact h3, by rw [r1]; exact h4, by rw [r1]; exact h5, by rw [r1]; exact h6⟩, ⟨hr.sm (I := Z0) (I' := Z0) (sam.ofR (fun b _ _ => o b (by omega))), by rw [o 2 (by decide)]; exact hr1⟩, ⟨hsl.1, fun j hj => ⟨by rw [o 11 (by decide)]; exact (hsl.2 j hj).1, (hsl.2 j hj).2.sm (I := Z0) (I' := Z0) (sam.ofR (fun b _ _ => o b (by have := hPr j hj; omega)))⟩⟩, htp.sm (I := Z0) (I' := Z0) (sam.ofR (fun b _ _ => o b (by omega))), htx.sm (I := Z0) (I' := Z0) (sam.ofR (fun b _ _ => o b (by omega))), hd, ⟨hia, fun j hj => ⟨by rw [o 791 (by decide)]; exact (hid j hj).1, (hid j hj).2.sm (I := Z0) (I' := Z0) (sam.ofR (fun b hb _ => o b (by unfold idA at hb; omega)))⟩⟩, ⟨hso.1, fun j hj => ⟨by rw [o 1288 (by decide)]; exact (hso.2 j hj).1, (hso.2 j hj).2.sm (I := Z0) (I' := Z0) (sam.ofR (fun b hb _ => o b (by have : 1289 + 3 * j ≤ b := hb; omega)))⟩⟩, ⟨hP, hsp, hspp.sm (I := Z0) (I' := Z0) (sam.ofR (fun b _ _ => o b (by omega))), hne, hnes⟩, hpd, hpd1.sm (I := Z0) (I' := Z0) (sam.ofR (fun b _ _ => o b (by omega))), hps1.sm (I := Z0) (I' := Z0) (sam.ofR (fun b _ _ => o b (by omega)))⟩
theorem ClsV.toDiv {I' : MI} {nw' : Nat} {dv : Option (Int × Nat × Dv)} (h : ClsS S R P sp pd ps nu nw af) (hs : MsOK s) (hv : ClsV S I P nu nw s) (o : offX I I' 44 790) (hd : ClD I' nw' dv) : ClsV S I' P nu nw' (withD s dv) := by
  have hPr := fun j (hj : j < 8) => (h.okP j hj).r
  have nr := h.nr
  have g : ∀ b, (b < 44 ∨ 790 < b) → I' b = I b := o
  exact ⟨⟨hv.rtI (fun b _ _ => g b (by omega)), hv.nm.atI (g _ (by omega))⟩, fun k hk => (hv.f k hk).same (fun b _ _ => g b (by have := hPr k hk; omega)), hv.tpI (g _ (by omega)) (g _ (by omega)), hv.txI (g _ (by omega)) (g _ (by omega)), hd, by rw [g 1 (by omega)]; exact hv.nx, (hv.idI hs (fun b _ _ => g b (by omega)) : ∀ k, k < 4 → ClI I' s (idA k))⟩
theorem cls_weak {Q : Sh → MI → MR → Int → Prop} (h : ClsS S R P sp pd ps nu nw af) (hs : MsOK s) (hv : ClsV S I P nu nw s) {x1 x2 : Int} (hq : ∀ S' I' R' x s', Cls S' I' R' s' → frC S I R S' I' R' → weakA s x1 x2 x s' → MsOK s' → Q S' I' R' x) : CI G MX9_weak [vR 1, vI x1, vI x2] S I R Q := by
  have no : ¬ (slt x1 ∧ set8 x2) → Q S I R (-1) := fun c => hq S I R _ s ⟨_, _, _, _, _, _, _, h, hv⟩ frC.rf ⟨fun z => absurd z c, fun _ => ⟨rfl, rfl⟩⟩ hs
  refine bX9_weak ⟨fun c => no (fun z => v9isSlot.mpr z.1 c), fun c => ⟨fun d => ?_, fun d => no (fun z => d (v9isSet.mpr z.2))⟩⟩
  have c1 := v9isSlot.mp c
  have c2 := v9isSet.mp d
  refine ⟨h.t1, held_spec h hv c2 ?_⟩
  have hb := hld_r s.f x2 8
  have hb2 : 0 ≤ hld s.f x2 8 ∧ hld s.f x2 8 < 256 := hb
  rw [h.r0, h.r1, h.r4, h.toNu]
  have hPr := fun j (hj : j < 8) => (h.okP j hj).r
  have nr := h.nr
  have e1 : x1 = ((x1.toNat : Nat) : Int) := by omega
  refine ⟨h.t1, h.ring.1, h.dv.1, ?_⟩
  rw [e1]
  have hi : ∀ {I' : MI}, offX I I' 44 (44 + 746) → ∀ b, 1310 ≤ b → I' b = I b := fun o b hb => o b (by omega)
  refine divide_spec (s := hld s.f x2 8) (a := x1.toNat) h.dv h.sl hv.f (fun k hk => by have := hPr k hk; omega) hs.2.2.2.1 hs.2.2.1 hv.nm (by omega) (by omega) hb2 (fun I' R' nw' af' d' q1 q2 q3 q4 q5 q6 q7 q8 q9 => ?_) (fun I' R' nw' af' q1 q2 q3 q4 q5 => ?_)
  · refine hq S I' R' _ (withD s (some (hld s.f x2 8, x1.toNat, d'))) ⟨_, _, _, _, _, _, _, h.toDiv q5 q6, ClsV.toDiv h hs hv q2 ⟨q9, q3, q4, q7⟩⟩ (frC.ir (hi q2) (fun b hb => q5 b (by omega))) ⟨fun _ => ⟨some d', q1, ⟨fun (z : some d' = none) => absurd z (fun y => nomatch y), fun d2 z => ?_⟩⟩, fun z => absurd ⟨c1, c2⟩ z⟩ ⟨hs.1, hs.2.1, hs.2.2.1, hs.2.2.2.1, hs.2.2.2.2.1, hs.2.2.2.2.2.1, ⟨hb2, by omega, q8⟩⟩
    rw [← Option.some.inj z]; exact ⟨rfl, rfl⟩
  · exact hq S I' R' _ (withD s none) ⟨_, _, _, _, _, _, _, h.toDiv q3 q4, ClsV.toDiv (dv := none) h hs hv q2 q5⟩ (frC.ir (hi q2) (fun b hb => q3 b (by omega))) ⟨fun _ => ⟨none, q1, ⟨fun _ => ⟨rfl, rfl⟩, fun d2 (z : none = some d2) => absurd z (fun y => nomatch y)⟩⟩, fun z => absurd ⟨c1, c2⟩ z⟩ ⟨hs.1, hs.2.1, hs.2.2.1, hs.2.2.2.1, hs.2.2.2.2.1, hs.2.2.2.2.2.1, trivial⟩
theorem kept_no {x1 : Int} (h : ClsS S R P sp pd ps nu nw af) (hv : ClsV S I P nu nw s) (hno : s.dv = none ∨ ¬ (0 ≤ x1 ∧ x1 ≤ 9) ∨ ∀ st a d, s.dv = some (st, a, d) → ¬ (x1 ≤ 1 ∨ bitI st (x1 - 2).toNat = 1)) (hok : DvOK (s.p : Int) s.n s.w s.dv) : vX0_keptOne I R 44 x1 = 0 := by
  unfold vX0_keptOne
  have hd := hv.dv
  revert hd hno hok
  generalize s.dv = dv
  intro hno hok hd
  cases dv with
  | none =>
    have h0 : I 44 0 = 0 := hd
    rw [if_pos h0]
  | some y =>
    obtain ⟨st, a, d⟩ := y
    have h2 : I 44 0 = 1 ∧ I 44 1 = st ∧ I 44 2 = (a : Int) ∧ DivV I 44 nw d := hd
    have o2 : (0 ≤ st ∧ st < 256) ∧ a < 8 ∧ DivO (s.p : Int) s.n s.w d := hok
    rw [h2.1, h2.2.1, if_neg (by decide)]
    by_cases c1 : x1 < 0
    · rw [if_pos c1]
    · rw [if_neg c1]
      by_cases c2 : x1 < 10
      · rw [if_pos c2]
        rcases hno with z | z | z
        · cases z
        · exact absurd ⟨by omega, by omega⟩ z
        · have z2 := z st a d rfl
          have c3 : 2 ≤ x1 := by omega
          rw [if_pos c3, w32_id (x := x1 - 2) (by omega)]
          have e : iand (ishr st (x1 - 2)) 1 = bitI st (x1 - 2).toNat := by
            rw [show x1 - 2 = (((x1 - 2).toNat : Nat) : Int) by omega, vbit ⟨o2.1.1, by omega⟩ (by omega), show (((x1 - 2).toNat : Nat) : Int).toNat = (x1 - 2).toNat by omega]
          rw [e, if_pos (fun y => z2 (Or.inr y))]
      · rw [if_neg c2]
theorem kept_yes {x1 st : Int} {a : Nat} {d : Dv} (h : ClsS S R P sp pd ps nu nw af) (hv : ClsV S I P nu nw s) (hdv : s.dv = some (st, a, d)) (hok : DvOK (s.p : Int) s.n s.w s.dv) (h9 : 0 ≤ x1 ∧ x1 ≤ 9) (hb : x1 ≤ 1 ∨ bitI st (x1 - 2).toNat = 1) :
    ∃ a', vX0_keptOne I R 44 x1 = a' ∧ (45 ≤ a' ∧ a' + 2 ≤ 790) ∧ PolyS S R a' 60 ∧ Has I a' (kq d x1) ∧ okQ (s.p : Int) s.n s.w (kq d x1) := by
  have hd := hv.dv
  rw [hdv] at hd hok
  have h2 : I 44 0 = 1 ∧ I 44 1 = st ∧ I 44 2 = (a : Int) ∧ DivV I 44 nw d := hd
  have o2 : (0 ≤ st ∧ st < 256) ∧ a < 8 ∧ DivO (s.p : Int) s.n s.w d := hok
  have hD := h.dv
  have hE := hD.2.2.2.2.2.1.1
  have hV := h2.2.2.2.2.1
  have oE := o2.2.2.2.1
  have nwr := hD.2.2.1
  have r7 : R 44 7 = nw := hD.2.1.2.2.1
  unfold vX0_keptOne kq
  rw [h2.1, h2.2.1, r7, hE.2.1.1, hE.2.1.2.1, hE.2.1.2.2, if_neg (by decide), if_neg (by omega), if_pos (by omega)]
  by_cases c0 : x1 = 0
  · rw [if_neg (by omega), if_neg (fun z => z c0), if_pos c0]
    exact ⟨_, rfl, by omega, hE.2.2.1, hV.1, oE.1⟩
  · by_cases c1 : x1 = 1
    · rw [if_neg (by omega), if_pos c0, if_neg c0, if_pos c1]
      exact ⟨_, rfl, by omega, hE.2.2.2.1, hV.2.1, oE.2.1⟩
    · have c3 : 2 ≤ x1 := by omega
      have hbit : bitI st (x1 - 2).toNat = 1 := by
        rcases hb with z | z
        · omega
        · exact z
      have e : iand (ishr st (x1 - 2)) 1 = bitI st (x1 - 2).toNat := by
        rw [show x1 - 2 = (((x1 - 2).toNat : Nat) : Int) by omega, vbit ⟨o2.1.1, by omega⟩ (by omega), show (((x1 - 2).toNat : Nat) : Int).toNat = (x1 - 2).toNat by omega]
      have k8 : (x1 - 2).toNat < 8 := by omega
      have q := hE.2.2.2.2.2 (x1 - 2).toNat k8
      rw [if_pos c3, w32_id (x := x1 - 2) (by omega), e, if_neg (fun z => z hbit), if_neg c0, if_neg c1, q.1]
      exact ⟨_, rfl, by omega, q.2, hV.2.2 _ k8, oE.2.2 _ k8⟩
theorem p9kept {x1 : Int} (h : ClsS S R P sp pd ps nu nw af) : pX0_keptOne S I R 44 x1 := by
  unfold pX0_keptOne
  have hD := h.dv
  have hE := hD.2.2.2.2.2.1.1
  have r7 : R 44 7 = nw := hD.2.1.2.2.1
  rw [r7, hE.2.1.2.2]
  refine ⟨hD.1, fun _ => trivial, fun _ => ⟨fun _ => trivial, fun c1 => ⟨fun c2 => ⟨fun c3 => ⟨fun _ => trivial, fun _ => ⟨hE.1, hE.2.2.2.2.1.1, ?_, trivial⟩⟩, fun _ => ⟨fun _ => ⟨hE.1, trivial⟩, fun _ => ⟨hE.1, trivial⟩⟩⟩, fun _ => trivial⟩⟩⟩
  rw [w32_id (x := x1 - 2) (by omega), hE.2.2.2.2.1.2]
  omega
theorem cls_kept {Q : Sh → MI → MR → Int → Prop} (h : ClsS S R P sp pd ps nu nw af) (hs : MsOK s) (hv : ClsV S I P nu nw s) {x1 x2 : Int} (hq : ∀ S' I' R' x s', Cls S' I' R' s' → frC S I R S' I' R' → keptA s x1 x2 x s' → Q S' I' R' x) : CI G MX9_kept [vR 1, vI x1, vI x2] S I R Q := by
  have no : (s.dv = none ∨ ¬ slt x2 ∨ ¬ (0 ≤ x1 ∧ x1 ≤ 9) ∨ ∀ st a d, s.dv = some (st, a, d) → ¬ (x1 ≤ 1 ∨ bitI st (x1 - 2).toNat = 1)) → Q S I R (-1) := fun c => hq S I R _ s ⟨_, _, _, _, _, _, _, h, hv⟩ frC.rf ⟨fun st a d y1 y2 y3 y4 y5 => by
    rcases c with c | c | c | c
    · rw [c] at y1; cases y1
    · exact absurd y2 c
    · exact absurd ⟨y3, y4⟩ c
    · exact absurd y5 (c st a d y1), fun _ => ⟨rfl, rfl⟩⟩
  have hok := hs.2.2.2.2.2.2
  refine bX9_kept ?_
  rw [h.r4, h.r8]
  by_cases hx : ∃ st a d, s.dv = some (st, a, d) ∧ (0 ≤ x1 ∧ x1 ≤ 9) ∧ (x1 ≤ 1 ∨ bitI st (x1 - 2).toNat = 1)
  · obtain ⟨st, a, d, hdv, h9, hb⟩ := hx
    obtain ⟨a', e1, e2, e3, e4, e5⟩ := kept_yes h hv hdv hok h9 hb
    rw [e1]
    have sr := h.spp.1.r
    refine ⟨h.t1, h.dv.1, p9kept h, fun z => absurd z (by omega), fun _ => ⟨fun c => ⟨h.spp.2.1, become_spec h.spp.2 e3 e4 (by unfold apt; omega) e5.2.2 e5.2.2 (by omega) (fun I2 o2 h2 => ⟨h.t1, ?_⟩)⟩, fun c => no (Or.inr (Or.inl (fun z => c (v9isSlot.mpr z))))⟩⟩
    have c2 := v9isSlot.mp c
    rw [show x2 = ((x2.toNat : Nat) : Int) by omega]
    refine spare_put h hs (hv.offSp h hs o2) (by omega) h2 (o2.hi h) (fun I3 R3 f3 k3 => hq S I3 R3 _ _ k3 f3 ⟨fun st' a2 d' y1 _ _ _ _ => ?_, fun z => ?_⟩)
    · rw [hdv] at y1
      cases y1
      exact ⟨rfl, rfl⟩
    · rcases z with z | z | z | z
      · rw [hdv] at z; cases z
      · exact absurd c2 z
      · exact absurd h9 z
      · exact absurd hb (z st a d hdv)
  · have e0 : s.dv = none ∨ ¬ (0 ≤ x1 ∧ x1 ≤ 9) ∨ ∀ st a d, s.dv = some (st, a, d) → ¬ (x1 ≤ 1 ∨ bitI st (x1 - 2).toNat = 1) := by
      by_cases y : 0 ≤ x1 ∧ x1 ≤ 9
      · exact Or.inr (Or.inr (fun st a d h1 h2 => hx ⟨st, a, d, h1, y, h2⟩))
      · exact Or.inr (Or.inl y)
    rw [kept_no h hv e0 hok]
    refine ⟨h.t1, h.dv.1, p9kept h, fun _ => no ?_, fun z => absurd rfl z⟩
    rcases e0 with z | z | z
    · exact Or.inl z
    · exact Or.inr (Or.inr (Or.inl z))
    · exact Or.inr (Or.inr (Or.inr z))
theorem ClsV.toEmp {I' : MI} {f : Int × Int} (h : ClsS S R P sp pd ps nu nw af) (hs : MsOK s) (hv : ClsV S I P nu nw s) (o : ∀ b, (b < 36 ∨ 41 < b ∨ b = 37) → I' b = I b) (h1 : I' 36 1 = 0) (h2 : I' 36 2 = f.1) (h3 : I' 36 3 = f.2) : ClsV S I' P nu nw (emp s f) := by
  have hPr := fun j (hj : j < 8) => (h.okP j hj).r
  have nr := h.nr
  exact ⟨⟨hv.rtI (fun b _ _ => o b (by omega)), hv.nm.atI (o _ (by omega))⟩, fun k hk => (hv.f k hk).same (fun b _ _ => o b (by have := hPr k hk; omega)), ⟨⟨h1, Nat.zero_le _, fun i hi => absurd hi (Nat.not_lt_zero _)⟩, h2, h3⟩, hv.txI (o _ (by omega)) (o _ (by omega)), (hv.dvI h hs (fun b _ _ => o b (by omega)) : ClD I' nw s.dv), by rw [o 1 (by omega)]; exact hv.nx, (hv.idI hs (fun b _ _ => o b (by omega)) : ∀ k, k < 4 → ClI I' s (idA k))⟩
theorem emp_ok2 (hs : MsOK s) (f : Int × Int) : MsOK (emp s f) := ⟨hs.1, hs.2.1, hs.2.2.1, hs.2.2.2.1, ⟨Nat.zero_le _, fun i hi => absurd hi (Nat.not_lt_zero _)⟩, hs.2.2.2.2.2.1, hs.2.2.2.2.2.2⟩
theorem cls_poly {Q : Sh → MI → MR → Int → Prop} (h : ClsS S R P sp pd ps nu nw af) (hs : MsOK s) (hv : ClsV S I P nu nw s) {x1 : Int} (hq : ∀ S' I' R' x s', Cls S' I' R' s' → frC S I R S' I' R' → polyA s x1 x s' → Q S' I' R' x) : CI G MX9_poly [vR 1, vI x1] S I R Q := by
  refine bX9_poly ?_
  rw [h.r2]
  have t7 := h.tp.1
  have nr := h.nr
  refine ⟨h.t1, t7, bX7_clearFault ⟨t7, fun I2 e2 => fun I3 e3 => ?_⟩⟩
  rw [h.r0, h.r2]
  have o3 : ∀ b, b ≠ 36 → I3 b = I b := fun b hb => by rw [e3, up2_n hb, e2, up2_n hb]
  have f1 : I3 36 1 = (s.tn : Int) := by rw [e3, up2_sn (by decide), e2, up2_sn (by decide)]; exact hv.tp.1.1
  have f2 : I3 36 2 = 0 := by rw [e3, up2_sn (by decide), e2, up2_ss]
  have f3 : I3 36 3 = -1 := by rw [e3, up2_ss]
  refine ⟨fun c => ?_, fun c => ⟨h.t1, t7, ?_⟩⟩
  · refine bX9_poly_25 ?_
    rw [h.r2]
    refine ⟨h.t1, t7, fun I4 e4 => ⟨fun _ => ?_, fun z => absurd c z⟩⟩
    refine hq S I4 R _ _ ⟨_, _, _, _, _, _, _, h, ClsV.toEmp (f := (0, -1)) h hs hv (fun b hb => by rw [e4, up2_n (by omega)]; exact o3 b (by omega)) (by rw [e4, up2_ss]) (by rw [e4, up2_sn (by decide)]; exact f2) (by rw [e4, up2_sn (by decide)]; exact f3)⟩ (frC.i (fun b hb => by rw [e4, up2_n (by omega)]; exact o3 b (by omega))) ⟨fun _ => ⟨rfl, rfl⟩, fun z => absurd (v9isSlot.mpr z) (fun y => y c)⟩
  · have c1 := v9isSlot.mp c
    have tb : TpB I3 36 s.b s.tn := ⟨f1, hv.tp.1.2.1, fun i hi => by rw [o3 (36 + 1) (by decide)]; exact hv.tp.1.2.2 i hi⟩
    refine read_spec h.tp ⟨h.ring, h.toNu, Or.inl (by omega), by omega⟩ tb ⟨(hv.rtI (fun b _ _ => o3 b (by omega))).1, hv.nm.atI (o3 _ (by omega))⟩ f2 f3 (fun I5 f r1 r2 r3 r4 r5 => ?_) (fun I5 L r1 r3 r4 r5 r6 r7 => ?_)
    · refine bX9_poly_25 ?_
      rw [h.r2]
      refine ⟨h.t1, t7, fun I4 e4 => ⟨fun z => absurd z c, fun _ => ⟨fun z => ?_, fun _ => ?_⟩⟩⟩
      · rw [e4, up2_sn (by decide), r4] at z
        exact absurd z r2
      · have oo : ∀ b, (b < 36 ∨ 41 < b ∨ b = 37) → I4 b = I b := fun b hb => by rw [e4, up2_n (by omega), r3.1 b (by omega)]; exact o3 b (by omega)
        refine hq S I4 R _ _ ⟨_, _, _, _, _, _, _, h, ClsV.toEmp (f := f) h hs hv oo (by rw [e4, up2_ss]) (by rw [e4, up2_sn (by decide)]; exact r4) (by rw [e4, up2_sn (by decide)]; exact r5)⟩ (frC.i (fun b hb => oo b (by omega))) ⟨fun z => absurd c1 z, fun _ => ⟨fun f' z => ?_, fun L z => ?_⟩⟩
        · rw [r1] at z; cases z; exact ⟨rfl, rfl⟩
        · rw [r1] at z; cases z
    · refine bX9_poly_25 ?_
      rw [h.r2, h.r8, show R 36 4 = 38 from h.tp.2.1.2.1]
      have sr := h.spp.1.r
      refine ⟨h.t1, t7, fun I4 e4 => ⟨fun z => absurd z c, fun _ => ⟨fun _ => ?_, fun z => ?_⟩⟩⟩
      · have oo : ∀ b, (b < 36 ∨ 41 < b ∨ b = 37) → I4 b = I b := fun b hb => by rw [e4, up2_n (by omega), r3.1 b (by omega)]; exact o3 b (by omega)
        have hv4 := ClsV.toEmp (I' := I4) (f := (0, -1)) h hs hv oo (by rw [e4, up2_ss]) (by rw [e4, up2_sn (by decide)]; exact r4) (by rw [e4, up2_sn (by decide)]; exact r5)
        have hL4 : Has I4 38 L := (show Has I5 38 L from r6).same (fun b _ _ => by rw [e4]; exact up2_n (by omega))
        refine ⟨h.spp.2.1, become_spec h.spp.2 h.tp.2.2.2 hL4 (by unfold apt; omega) r7 (by omega) (by omega) (fun I6 o6 h6 => ⟨h.t1, ?_⟩)⟩
        rw [show x1 = ((x1.toNat : Nat) : Int) by omega]
        refine spare_put h (emp_ok2 hs _) (ClsV.offSp h (emp_ok2 hs _) hv4 o6) (by omega) h6 (fun b hb => (o6.hi h b hb).trans (oo b (by omega))) (fun I7 R7 g7 k7 => hq S I7 R7 _ _ k7 g7 ⟨fun z => absurd c1 z, fun _ => ⟨fun f' z => ?_, fun L' z => ?_⟩⟩)
        · rw [r1] at z; cases z
        · rw [r1] at z; cases z; exact ⟨rfl, rfl⟩
      · rw [e4, up2_sn (by decide), r4] at z
        exact absurd rfl z
end CLW

