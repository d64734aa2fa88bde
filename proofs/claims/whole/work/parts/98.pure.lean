/-! ===== what the class answers at once ===== -/
section PVL
variable {S : Sh} {I : MI} {R : MR} {P : Nat → Nat} {sp pd ps nu nw af : Nat} {s : Ms}
theorem pv_fault (h : ClsS S R P sp pd ps nu nw af) (hv : ClsV S I P nu nw s) {x1 : Int} : (pX9_fault S R 1 x1) ∧ faultA s x1 (vX9_fault I R 1 x1) := by
  refine ⟨?_, ?_⟩
  · unfold pX9_fault
    rw [h.r2]
    exact ⟨fun _ => ⟨fun _ => trivial, fun _ => ⟨h.t1, h.tp.1, trivial⟩⟩, fun _ => ⟨h.t1, h.tp.1, trivial⟩⟩
  · unfold faultA vX9_fault
    rw [h.r2, hv.tp.2.1, hv.tp.2.2]
    by_cases c : x1 = 0
    · rw [if_neg (fun z => z c), if_pos c]
    · rw [if_pos c, if_neg c]
      by_cases d : x1 = 1
      · rw [if_neg (fun z => z d), if_pos d]
      · rw [if_pos d, if_neg d]
theorem pv_out (h : ClsS S R P sp pd ps nu nw af) (hs : MsOK s) (hv : ClsV S I P nu nw s) {x1 : Int} : (pX9_out S I R 1 x1) ∧ outA s x1 (vX9_out I R 1 x1) := by
  have hx := h.tx
  have ht := hv.tx
  have hl := hs.2.2.2.2.2.1
  refine ⟨?_, ?_⟩
  · unfold pX9_out
    rw [h.r3, hx.2.1, ht.1]
    refine ⟨fun _ => trivial, fun c => ⟨h.t1, hx.1, fun _ => trivial, fun d => ⟨hx.2.2.1, ⟨by omega, ?_⟩, trivial⟩⟩⟩
    have := hx.2.2.2
    rw [this]; omega
  · unfold outA vX9_out
    rw [h.r3, hx.2.1, ht.1]
    by_cases c : x1 < 0
    · rw [if_pos c, if_neg (by omega)]
    · by_cases d : (s.sh.length : Int) ≤ x1
      · rw [if_neg c, if_pos d, if_neg (by omega)]
      · rw [if_neg c, if_neg d, if_pos (by omega)]
        have hj : x1.toNat < s.sh.length := by omega
        rw [ht.2 x1.toNat s.sh[x1.toNat] (List.getElem?_eq_getElem hj), List.getD_eq_getElem?_getD, List.getElem?_eq_getElem hj]; rfl
theorem pv_term (h : ClsS S R P sp pd ps nu nw af) (hs : MsOK s) (hv : ClsV S I P nu nw s) {x1 x2 x3 : Int} : (pX9_term S I R 1 x1 x2 x3) ∧ termA s x1 x2 x3 (vX9_term I R 1 x1 x2 x3) := by
  by_cases c : slt x1
  · obtain ⟨⟨t11, l11⟩, e11, po⟩ := h.slot c
    have hL := hv.f x1.toNat (by omega)
    have ok := hs.2.2.2.1 x1.toNat (by omega)
    have hl60 := ok.2.2
    have at' : ∀ (z0 : ¬ x2 < 0) (z1 : ¬ ((s.f x1.toNat).length : Int) ≤ x2), ∃ hj : x2.toNat < (s.f x1.toNat).length, I (P x1.toNat + 1) x2.toNat = ((s.f x1.toNat)[x2.toNat]).1 ∧ I (P x1.toNat + 2) x2.toNat = ((s.f x1.toNat)[x2.toNat]).2 ∧ (s.f x1.toNat).getD x2.toNat (0, 0) = (s.f x1.toNat)[x2.toNat] ∧ InR ((s.f x1.toNat)[x2.toNat]).1 := by
      intro z0 z1
      have hj : x2.toNat < (s.f x1.toNat).length := by omega
      have a := hL.at hj
      exact ⟨hj, a.1, a.2, by rw [List.getD_eq_getElem?_getD, List.getElem?_eq_getElem hj]; rfl, by have q := ok.ms _ (List.getElem_mem hj); unfold okm at q; unfold InR; omega⟩
    refine ⟨?_, ?_⟩
    · unfold pX9_term
      rw [h.r1, e11, po.2.1, po.2.2.1, hL.1]
      refine ⟨fun _ => ⟨h.t1, t11, l11, fun _ => ⟨fun _ => trivial, fun z0 => ⟨po.1, fun _ => trivial, fun z1 => ⟨fun _ => trivial, fun _ => ⟨fun _ => ⟨fun _ => ⟨po.2.2.2.1, ⟨by omega, ?_⟩, trivial⟩, fun _ => ⟨po.2.2.2.2.1, ⟨by omega, ?_⟩, trivial⟩⟩, fun _ => trivial⟩⟩⟩⟩, fun _ => ⟨po.1, trivial⟩⟩, fun _ => trivial⟩
      · rw [po.2.2.2.2.2.1]; omega
      · rw [po.2.2.2.2.2.2]; omega
    · unfold termA vX9_term
      rw [h.r1, e11, po.2.1, po.2.2.1, hL.1, if_pos (v9isSlot.mpr c), if_pos c]
      by_cases d : x2 = -1
      · rw [if_neg (fun z => z d), if_pos d]
      · rw [if_pos d, if_neg d]
        by_cases z0 : x2 < 0
        · rw [if_pos z0, if_neg (by omega)]
        · by_cases z1 : ((s.f x1.toNat).length : Int) ≤ x2
          · rw [if_neg z0, if_pos z1, if_neg (by omega)]
          · have g : 0 ≤ x2 ∧ x2 < ((s.f x1.toNat).length : Int) := by omega
            rw [if_neg z0, if_neg z1, if_pos g]
            obtain ⟨hj, a1, a2, a3, a4⟩ := at' z0 z1
            rw [a1, a2, a3]
            unfold tellT vX9_tellMono
            by_cases y0 : x3 < 0
            · rw [if_pos y0, if_neg (by omega), if_neg (by omega), if_neg (by omega), if_neg (by omega), if_neg (by omega)]
            · by_cases y4 : x3 ≤ 4
              · rw [if_neg y0, if_pos y4]
                by_cases y : x3 = 0
                · rw [if_neg (fun z => z y), if_pos y]
                · rw [if_pos y, if_neg y, w32_id (x := x3 - 1) (by omega)]
                  by_cases y1 : x3 = 1
                  · rw [y1, if_pos (by decide), if_pos rfl, vexp a4 (by omega)]; rfl
                  · by_cases y2 : x3 = 2
                    · rw [y2, if_pos (by decide), if_neg (by decide), if_pos rfl, vexp a4 (by omega)]; rfl
                    · by_cases y3 : x3 = 3
                      · rw [y3, if_pos (by decide), if_neg (by decide), if_neg (by decide), if_pos rfl, vexp a4 (by omega)]; rfl
                      · have y5 : x3 = 4 := by omega
                        rw [y5, if_neg (by decide), if_neg (by decide), if_neg (by decide), if_neg (by decide), if_pos rfl, vdeg a4]
              · rw [if_neg y0, if_neg y4, if_neg (by omega), if_neg (by omega), if_neg (by omega), if_neg (by omega), if_neg (by omega)]
  · refine ⟨?_, ?_⟩
    · unfold pX9_term
      exact ⟨fun z => absurd (v9isSlot.mp z) c, fun _ => trivial⟩
    · unfold termA vX9_term
      rw [if_neg (fun z => c (v9isSlot.mp z)), if_neg c]
theorem pv_shape (h : ClsS S R P sp pd ps nu nw af) (hs : MsOK s) (hv : ClsV S I P nu nw s) {x1 x2 : Int} : (pX9_shape S I R 1 x1 x2) ∧ shapeA s x1 x2 (vX9_shape I R 1 x1 x2) := by
  by_cases c : slt x1
  · obtain ⟨⟨t11, l11⟩, e11, po⟩ := h.slot c
    have hL := hv.f x1.toNat (by omega)
    have ok := hs.2.2.2.1 x1.toNat (by omega)
    have hl60 := ok.2.2
    have pl := p5low po hL hl60
    have ph := p5high po hL hl60 (by omega)
    have pe := p5ec po hL hl60 (by omega)
    have vl := v5low po hL ok.ms
    have vh := v5high po hL ok.ms (by omega)
    have ve := v5ec po hL ok.ms (by omega)
    refine ⟨?_, ?_⟩
    · unfold pX9_shape
      rw [h.r1, e11]
      exact ⟨fun _ => ⟨h.t1, t11, l11, fun _ => ⟨po.1, pl, trivial⟩, fun _ => ⟨fun _ => ⟨po.1, ph, trivial⟩, fun _ => ⟨fun _ => ⟨po.1, pe, trivial⟩, fun _ => ⟨fun _ => ⟨po.1, pl, ph, trivial⟩, fun _ => ⟨fun _ => ⟨po.1, pl, trivial⟩, fun _ => trivial⟩⟩⟩⟩⟩, fun _ => trivial⟩
    · unfold shapeA vX9_shape
      rw [h.r1, e11, if_pos (v9isSlot.mpr c), if_pos c, vl, vh, ve]
      by_cases y0 : x2 = 0
      · rw [if_pos y0, if_pos y0]
      · rw [if_neg y0, if_neg y0]
        by_cases y1 : x2 = 1
        · rw [if_pos y1, if_pos y1]
        · rw [if_neg y1, if_neg y1]
          by_cases y2 : x2 = 2
          · rw [if_pos y2, if_pos y2]
          · rw [if_neg y2, if_neg y2]
            by_cases y3 : x2 = 3
            · rw [if_pos y3, if_pos y3]
              by_cases z : lowL (s.f x1.toNat) = highL (s.f x1.toNat)
              · rw [if_neg (fun y => y z), if_pos z]
              · rw [if_pos z, if_neg z]
            · rw [if_neg y3, if_neg y3]
              by_cases y4 : x2 = 4
              · rw [if_pos y4, if_pos y4]
                by_cases z : lowL (s.f x1.toNat) = 0
                · rw [if_neg (fun y => y z), if_pos z]
                · rw [if_pos z, if_neg z]
              · rw [if_neg y4, if_neg y4]
  · refine ⟨?_, ?_⟩
    · unfold pX9_shape
      exact ⟨fun z => absurd (v9isSlot.mp z) c, fun _ => trivial⟩
    · unfold shapeA vX9_shape
      rw [if_neg (fun z => c (v9isSlot.mp z)), if_neg c]
theorem pv_step (h : ClsS S R P sp pd ps nu nw af) (hs : MsOK s) (hv : ClsV S I P nu nw s) {x1 x2 : Int} : (pX9_step S I R 1 x1 x2) ∧ stepA s x1 x2 (vX9_step I R 1 x1 x2) := by
  have hdv := hv.dv
  have hok := hs.2.2.2.2.2.2
  unfold stepA
  revert hdv hok
  generalize s.dv = dv
  intro hdv hok
  cases dv with
  | none =>
    have h20 : I 44 0 = 0 := hdv
    refine ⟨?_, ?_⟩
    · unfold pX9_step
      rw [h.r4, h20]
      exact ⟨h.t1, h.dv.1, fun z => absurd rfl z, fun _ => trivial⟩
    · unfold vX9_step
      rw [h.r4, h20]; rfl
  | some y =>
    obtain ⟨st, a, d⟩ := y
    have h2 : I 44 0 = 1 ∧ I 44 1 = st ∧ I 44 2 = (a : Int) ∧ DivV I 44 nw d := hdv
    have ok2 : (0 ≤ st ∧ st < 256) ∧ a < 8 ∧ DivO (s.p : Int) s.n s.w d := hok
    have c40 := ok2.2.2.1.1
    have e1 : I 44 3 = (d.1 : Int) := h2.2.2.2.1.1
    have e2 : I 44 4 = (d.2.1 : Int) := h2.2.2.2.1.2
    have hd := h.dv
    have row : ∀ (z0 : ¬ x1 < 0) (z1 : ¬ 40 ≤ x1), R (44 + 2) x1.toNat = 44 + 3 + x1.toNat ∧ sT S (44 + 3 + x1.toNat) = 21 ∧ sL S (44 + 3 + x1.toNat) = 5 := fun z0 z1 => hd.2.2.2.2.1 x1.toNat (by omega)
    have r46 : R 44 6 = 46 := hd.2.1.2.1
    refine ⟨?_, ?_⟩
    · unfold pX9_step
      rw [h.r4, h2.1]
      refine ⟨h.t1, hd.1, fun _ => ⟨fun _ => ⟨?_, trivial⟩, fun _ => ⟨?_, trivial⟩⟩, fun _ => trivial⟩
      · unfold pX0_tellStep
        rw [r46]
        refine ⟨fun _ => trivial, fun z0 => ⟨hd.1, fun _ => trivial, fun _ => ⟨fun _ => trivial, fun z1 => ⟨fun _ => trivial, fun z2 => ⟨fun z3 => ?_, fun _ => trivial⟩⟩⟩⟩⟩
        have w := row z0 z1
        rw [show R 46 x1.toNat = 44 + 3 + x1.toNat from w.1]
        refine ⟨hd.2.2.2.1.2.2.1, ⟨by omega, ?_⟩, w.2.1, ⟨by omega, ?_⟩, trivial⟩
        · have : sL S 46 = 40 := hd.2.2.2.1.2.2.2
          rw [this]; omega
        · rw [w.2.2]; omega
      · unfold pX0_tellWhole
        exact ⟨fun _ => ⟨fun _ => trivial, fun _ => ⟨hd.1, trivial⟩⟩, fun _ => ⟨hd.1, trivial⟩⟩
    · show vX9_step I R 1 x1 x2 = (if x1 = -1 then (if x2 = 0 then (d.1 : Int) else if x2 = 1 then (d.2.1 : Int) else if x2 = 2 then 1 else -1) else if (0 ≤ x1 ∧ x1 < (d.1 : Int)) ∧ 0 ≤ x2 ∧ x2 ≤ 4 then d.2.2.2.2 x1.toNat x2.toNat else -1)
      unfold vX9_step
      rw [h.r4, h2.1, if_pos (by decide)]
      by_cases c : x1 = -1
      · rw [if_neg (fun z => z c), if_pos c]
        unfold vX0_tellWhole
        rw [e1, e2]
        by_cases y0 : x2 = 0
        · rw [if_neg (fun z => z y0), if_pos y0]
        · rw [if_pos y0, if_neg y0]
          by_cases y1 : x2 = 1
          · rw [if_neg (fun z => z y1), if_pos y1]
          · rw [if_pos y1, if_neg y1]
            by_cases y2 : x2 = 2
            · rw [if_neg (fun z => z y2), if_pos y2]
            · rw [if_pos y2, if_neg y2]
      · rw [if_pos c, if_neg c]
        unfold vX0_tellStep
        rw [e1, r46]
        by_cases z0 : x1 < 0
        · rw [if_pos z0, if_neg (by omega)]
        · by_cases z1 : (d.1 : Int) ≤ x1
          · rw [if_neg z0, if_pos z1, if_neg (by omega)]
          · by_cases z2 : x2 < 0
            · rw [if_neg z0, if_neg z1, if_neg (by omega), if_pos z2, if_neg (by omega)]
            · by_cases z3 : x2 < 5
              · rw [if_neg z0, if_neg z1, if_neg (by omega), if_neg z2, if_pos z3, if_pos (by omega)]
                have w := row z0 (by omega)
                rw [show R 46 x1.toNat = 44 + 3 + x1.toNat from w.1]
                exact h2.2.2.2.2.2.2 x1.toNat (by omega) x2.toNat (by omega)
              · rw [if_neg z0, if_neg z1, if_neg (by omega), if_neg z2, if_neg z3, if_neg (by omega)]
theorem pv_all (h : ClsS S R P sp pd ps nu nw af) (hs : MsOK s) (hv : ClsV S I P nu nw s) {x1 x2 : Int} : (pX9_all S I R 1 x1 x2) ∧ allA s x1 x2 (vX9_all I R 1 x1 x2) := by
  have hr := h.ring
  have hb := bd_n (n := s.n)
  have vb := v9isBound h hv (x := x1)
  refine ⟨?_, ?_⟩
  · unfold pX9_all
    refine ⟨h.t1, p9isBound h, fun _ => trivial, fun c => ?_⟩
    have g := vb.mp c
    rw [h.r0, hr.2.1.2.2.1, hr.2.2.1.2.2.1, hr.2.2.2.1.2.2.1, w32_id (x := x1 + 1) (by omega)]
    exact ⟨fun _ => trivial, fun _ => ⟨fun _ => ⟨fun _ => ⟨hr.1, rfl, by omega, by omega, trivial⟩, fun _ => ⟨hr.1, rfl, by omega, trivial⟩⟩, fun _ => trivial⟩⟩
  · unfold vX9_all
    refine ⟨fun c => ?_, fun c => ?_⟩
    · have g := vb.mpr c.1
      have m1 := hv.rt.2.1.2 x1.toNat (by omega)
      have m2 := hv.rt.2.1.2 (x1.toNat + 1) (by omega)
      have b0 := (ml_bd hs.2.1 hs.2.2.1).2
      have b1 : (ml s.n s.w x1.toNat).length ≤ (ml s.n s.w ((bd s.n).toNat + 1)).length := ml_le (by omega)
      have b2 : (ml s.n s.w (x1.toNat + 1)).length ≤ (ml s.n s.w ((bd s.n).toNat + 1)).length := ml_le (by omega)
      rw [if_neg g, if_neg (by omega), if_pos (by omega), h.r0, hr.2.1.2.2.1, w32_id (x := x1 + 1) (by omega), show Int.toNat (x1 + 1) = x1.toNat + 1 by omega, m1, m2, w32_id (by omega)]
      by_cases z : x2 = 0
      · rw [if_neg (fun y => y z), if_pos z]
      · rw [if_pos z, if_neg z]
    · by_cases g : vX9_isBound I R 1 x1 = 0
      · rw [if_pos g]
      · rw [if_neg g]
        have g1 := vb.mp g
        by_cases z : x2 < 0
        · rw [if_pos z]
        · rw [if_neg z, if_neg (by omega)]
end PVL
theorem LawI.wk {i : Nat} {S : Sh} {I : MI} {R : MR} {s : Ms} (h : LawI i S I R s) : LawI (i + 1) S I R s := ⟨h.1, h.2.1, h.2.2.1, h.2.2.2.1, ⟨h.2.2.2.2.1.1, by have := h.2.2.2.2.1.2; omega⟩, by have := h.2.2.2.2.2; omega⟩
section STP
variable {G : Gl} {S : Sh} {I : MI} {R : MR} {s : Ms} {i : Nat} {Q : PQ} {K : Sh → MI → MR → Prop}
theorem st_ring {x1 x2 : Int} (hi : LawI i S I R s) (r1 : InR x1) (r2 : InR x2) (hk : ∀ S' I' R' s', LawI (i + 1) S' I' R' s' → K S' I' R') : sT S 1 = 9 ∧ CI G MX9_ring [vR 1, vI x1, vI x2] S I R (fun S1 I1 R1 x => sT S1 1310 = 10 ∧ CI G MX10_ring [vR 1310, vI x1, vI x2] S1 I1 R1 (fun S2 I2 R2 y => (x = y → K S2 I2 R2) ∧ (¬ (x = y) → Q S2 I2 R2 (vI 0)))) := by
  obtain ⟨P, sp, pd, ps, nu, nw, af, hS, hV⟩ := id hi.1
  exact ⟨hS.t1, law_case (A := fun y s'' => ringA s x1 x2 y s'') hi (fun Q1 h => cls_ring hS hi.2.2.2.2.1.1 hV (fun S' I' R' x s' hc hf hA => h S' I' R' x s' hc hf (fun y s'' h2 => ring_det hA h2) (ring_ok hi.2.1 hA))) (fun S' I' R' Q2 hr hv h => ref_ring hr hi.2.1 hv r1 r2 h) hk⟩
theorem st_weights {x1 x2 x3 : Int} (hi : LawI i S I R s) (r1 : InR x1) (r2 : InR x2) (r3 : InR x3) (hk : ∀ S' I' R' s', LawI (i + 1) S' I' R' s' → K S' I' R') : sT S 1 = 9 ∧ CI G MX9_weights [vR 1, vI x1, vI x2, vI x3] S I R (fun S1 I1 R1 x => sT S1 1310 = 10 ∧ CI G MX10_weights [vR 1310, vI x1, vI x2, vI x3] S1 I1 R1 (fun S2 I2 R2 y => (x = y → K S2 I2 R2) ∧ (¬ (x = y) → Q S2 I2 R2 (vI 0)))) := by
  obtain ⟨P, sp, pd, ps, nu, nw, af, hS, hV⟩ := id hi.1
  exact ⟨hS.t1, law_case (A := fun y s'' => weightsA s x1 x2 x3 y s'') hi (fun Q1 h => cls_weights hS hi.2.1 hV (fun S' I' R' x s' hc hf hA => h S' I' R' x s' hc hf (fun y s'' h2 => weights_det hA h2) (weights_ok hi.2.1 hA))) (fun S' I' R' Q2 hr hv h => ref_weights hr hi.2.1 hv r1 r2 r3 h) hk⟩
theorem st_feed {x1 x2 x3 x4 x5 : Int} (hi : LawI i S I R s) (r1 : InR x1) (r2 : InR x2) (r3 : InR x3) (r4 : InR x4) (r5 : InR x5) (hk : ∀ S' I' R' s', LawI (i + 1) S' I' R' s' → K S' I' R') : sT S 1 = 9 ∧ CI G MX9_feed [vR 1, vI x1, vI x2, vI x3, vI x4, vI x5] S I R (fun S1 I1 R1 x => sT S1 1310 = 10 ∧ CI G MX10_feed [vR 1310, vI x1, vI x2, vI x3, vI x4, vI x5] S1 I1 R1 (fun S2 I2 R2 y => (x = y → K S2 I2 R2) ∧ (¬ (x = y) → Q S2 I2 R2 (vI 0)))) := by
  obtain ⟨P, sp, pd, ps, nu, nw, af, hS, hV⟩ := id hi.1
  exact ⟨hS.t1, law_case (A := fun y s'' => feedA s x1 x2 x3 x4 x5 y s'') hi (fun Q1 h => cls_feed hS hi.2.1 hV r1 r2 r3 r4 r5 (fun S' I' R' x s' hc hf hA => h S' I' R' x s' hc hf (fun y s'' h2 => feed_det hA h2) (feed_ok hi.2.1 hA))) (fun S' I' R' Q2 hr hv h => ref_feed hr hi.2.1 hv r1 r2 r3 r4 r5 h) hk⟩
theorem st_end {x1 : Int} (hi : LawI i S I R s) (r1 : InR x1) (hk : ∀ S' I' R' s', LawI (i + 1) S' I' R' s' → K S' I' R') : sT S 1 = 9 ∧ CI G MX9_end [vR 1, vI x1] S I R (fun S1 I1 R1 x => sT S1 1310 = 10 ∧ CI G MX10_end [vR 1310, vI x1] S1 I1 R1 (fun S2 I2 R2 y => (x = y → K S2 I2 R2) ∧ (¬ (x = y) → Q S2 I2 R2 (vI 0)))) := by
  obtain ⟨P, sp, pd, ps, nu, nw, af, hS, hV⟩ := id hi.1
  exact ⟨hS.t1, law_case (A := fun y s'' => endA s x1 y s'') hi (fun Q1 h => cls_end hS hi.2.1 hV (fun S' I' R' x s' hc hf hA => h S' I' R' x s' hc hf (fun y s'' h2 => end_det hA h2) (end_ok hi.2.1 hA))) (fun S' I' R' Q2 hr hv h => ref_end hr hi.2.1 hv r1 h) hk⟩
theorem st_poly {x1 : Int} (hi : LawI i S I R s) (r1 : InR x1) (hk : ∀ S' I' R' s', LawI (i + 1) S' I' R' s' → K S' I' R') : sT S 1 = 9 ∧ CI G MX9_poly [vR 1, vI x1] S I R (fun S1 I1 R1 x => sT S1 1310 = 10 ∧ CI G MX10_poly [vR 1310, vI x1] S1 I1 R1 (fun S2 I2 R2 y => (x = y → K S2 I2 R2) ∧ (¬ (x = y) → Q S2 I2 R2 (vI 0)))) := by
  obtain ⟨P, sp, pd, ps, nu, nw, af, hS, hV⟩ := id hi.1
  exact ⟨hS.t1, law_case (A := fun y s'' => polyA s x1 y s'') hi (fun Q1 h => cls_poly hS hi.2.1 hV (fun S' I' R' x s' hc hf hA => h S' I' R' x s' hc hf (fun y s'' h2 => poly_det hA h2) (poly_ok hi.2.1 hA))) (fun S' I' R' Q2 hr hv h => ref_poly hr hi.2.1 hv r1 h) hk⟩
theorem st_fault {x1 : Int} (hi : LawI i S I R s) (r1 : InR x1) (hk : ∀ S' I' R' s', LawI (i + 1) S' I' R' s' → K S' I' R') : sT S 1 = 9 ∧ (pX9_fault S R 1 x1) ∧ sT S 1310 = 10 ∧ CI G MX10_fault [vR 1310, vI x1] S I R (fun S2 I2 R2 y => ((vX9_fault I R 1 x1) = y → K S2 I2 R2) ∧ (¬ ((vX9_fault I R 1 x1) = y) → Q S2 I2 R2 (vI 0))) := by
  obtain ⟨P, sp, pd, ps, nu, nw, af, hS, hV⟩ := id hi.1
  have pv := pv_fault (x1 := x1) hS hV
  exact ⟨hS.t1, pv.1, law_pure (A := fun y => faultA s x1 y) hi (fun y (hy : faultA s x1 y) => Eq.trans hy (Eq.symm pv.2)) (fun Q2 h => ref_fault hi.2.2.1 hi.2.1 hi.2.2.2.1  h) hk⟩
theorem st_show {x1 : Int} (hi : LawI i S I R s) (r1 : InR x1) (hk : ∀ S' I' R' s', LawI (i + 1) S' I' R' s' → K S' I' R') : sT S 1 = 9 ∧ CI G MX9_show [vR 1, vI x1] S I R (fun S1 I1 R1 x => sT S1 1310 = 10 ∧ CI G MX10_show [vR 1310, vI x1] S1 I1 R1 (fun S2 I2 R2 y => (x = y → K S2 I2 R2) ∧ (¬ (x = y) → Q S2 I2 R2 (vI 0)))) := by
  obtain ⟨P, sp, pd, ps, nu, nw, af, hS, hV⟩ := id hi.1
  exact ⟨hS.t1, law_case (A := fun y s'' => showA s x1 y s'') hi (fun Q1 h => cls_show hS hi.2.1 hV (fun S' I' R' x s' hc hf hA => h S' I' R' x s' hc hf (fun y s'' h2 => show_det hA h2) (show_ok hi.2.1 hA))) (fun S' I' R' Q2 hr hv h => ref_show hr hi.2.1 hv r1 h) hk⟩
theorem st_out {x1 : Int} (hi : LawI i S I R s) (r1 : InR x1) (hk : ∀ S' I' R' s', LawI (i + 1) S' I' R' s' → K S' I' R') : sT S 1 = 9 ∧ (pX9_out S I R 1 x1) ∧ sT S 1310 = 10 ∧ CI G MX10_out [vR 1310, vI x1] S I R (fun S2 I2 R2 y => ((vX9_out I R 1 x1) = y → K S2 I2 R2) ∧ (¬ ((vX9_out I R 1 x1) = y) → Q S2 I2 R2 (vI 0))) := by
  obtain ⟨P, sp, pd, ps, nu, nw, af, hS, hV⟩ := id hi.1
  have pv := pv_out (x1 := x1) hS hi.2.1 hV
  exact ⟨hS.t1, pv.1, law_pure (A := fun y => outA s x1 y) hi (fun y (hy : outA s x1 y) => Eq.trans hy (Eq.symm pv.2)) (fun Q2 h => ref_out hi.2.2.1 hi.2.1 hi.2.2.2.1 r1 h) hk⟩
theorem st_term {x1 x2 x3 : Int} (hi : LawI i S I R s) (r1 : InR x1) (r2 : InR x2) (r3 : InR x3) (hk : ∀ S' I' R' s', LawI (i + 1) S' I' R' s' → K S' I' R') : sT S 1 = 9 ∧ (pX9_term S I R 1 x1 x2 x3) ∧ sT S 1310 = 10 ∧ CI G MX10_term [vR 1310, vI x1, vI x2, vI x3] S I R (fun S2 I2 R2 y => ((vX9_term I R 1 x1 x2 x3) = y → K S2 I2 R2) ∧ (¬ ((vX9_term I R 1 x1 x2 x3) = y) → Q S2 I2 R2 (vI 0))) := by
  obtain ⟨P, sp, pd, ps, nu, nw, af, hS, hV⟩ := id hi.1
  have pv := pv_term (x1 := x1) (x2 := x2) (x3 := x3) hS hi.2.1 hV
  exact ⟨hS.t1, pv.1, law_pure (A := fun y => termA s x1 x2 x3 y) hi (fun y (hy : termA s x1 x2 x3 y) => Eq.trans hy (Eq.symm pv.2)) (fun Q2 h => ref_term hi.2.2.1 hi.2.1 hi.2.2.2.1 r1 r2 h) hk⟩
theorem st_shape {x1 x2 : Int} (hi : LawI i S I R s) (r1 : InR x1) (r2 : InR x2) (hk : ∀ S' I' R' s', LawI (i + 1) S' I' R' s' → K S' I' R') : sT S 1 = 9 ∧ (pX9_shape S I R 1 x1 x2) ∧ sT S 1310 = 10 ∧ CI G MX10_shape [vR 1310, vI x1, vI x2] S I R (fun S2 I2 R2 y => ((vX9_shape I R 1 x1 x2) = y → K S2 I2 R2) ∧ (¬ ((vX9_shape I R 1 x1 x2) = y) → Q S2 I2 R2 (vI 0))) := by
  obtain ⟨P, sp, pd, ps, nu, nw, af, hS, hV⟩ := id hi.1
  have pv := pv_shape (x1 := x1) (x2 := x2) hS hi.2.1 hV
  exact ⟨hS.t1, pv.1, law_pure (A := fun y => shapeA s x1 x2 y) hi (fun y (hy : shapeA s x1 x2 y) => Eq.trans hy (Eq.symm pv.2)) (fun Q2 h => ref_shape hi.2.2.1 hi.2.1 hi.2.2.2.1 r1 r2 h) hk⟩
theorem st_make {x1 x2 x3 x4 : Int} (hi : LawI i S I R s) (r1 : InR x1) (r2 : InR x2) (r3 : InR x3) (r4 : InR x4) (hk : ∀ S' I' R' s', LawI (i + 1) S' I' R' s' → K S' I' R') : sT S 1 = 9 ∧ CI G MX9_make [vR 1, vI x1, vI x2, vI x3, vI x4] S I R (fun S1 I1 R1 x => sT S1 1310 = 10 ∧ CI G MX10_make [vR 1310, vI x1, vI x2, vI x3, vI x4] S1 I1 R1 (fun S2 I2 R2 y => (x = y → K S2 I2 R2) ∧ (¬ (x = y) → Q S2 I2 R2 (vI 0)))) := by
  obtain ⟨P, sp, pd, ps, nu, nw, af, hS, hV⟩ := id hi.1
  exact ⟨hS.t1, law_case (A := fun y s'' => makeA s x1 x2 x3 x4 y s'') hi (fun Q1 h => cls_make hS hi.2.1 hV (fun S' I' R' x s' hc hf hA => h S' I' R' x s' hc hf (fun y s'' h2 => make_det hA h2) (make_ok hi.2.1 hA))) (fun S' I' R' Q2 hr hv h => ref_make hr hi.2.1 hv r1 r2 r3 r4 h) hk⟩
theorem st_part {x1 x2 x3 : Int} (hi : LawI i S I R s) (r1 : InR x1) (r2 : InR x2) (r3 : InR x3) (hk : ∀ S' I' R' s', LawI (i + 1) S' I' R' s' → K S' I' R') : sT S 1 = 9 ∧ CI G MX9_part [vR 1, vI x1, vI x2, vI x3] S I R (fun S1 I1 R1 x => sT S1 1310 = 10 ∧ CI G MX10_part [vR 1310, vI x1, vI x2, vI x3] S1 I1 R1 (fun S2 I2 R2 y => (x = y → K S2 I2 R2) ∧ (¬ (x = y) → Q S2 I2 R2 (vI 0)))) := by
  obtain ⟨P, sp, pd, ps, nu, nw, af, hS, hV⟩ := id hi.1
  exact ⟨hS.t1, law_case (A := fun y s'' => partA s x1 x2 x3 y s'') hi (fun Q1 h => cls_part hS hi.2.1 hV (fun S' I' R' x s' hc hf hA => h S' I' R' x s' hc hf (fun y s'' h2 => part_det hA h2) (part_ok hi.2.1 hA))) (fun S' I' R' Q2 hr hv h => ref_part hr hi.2.1 hv r1 r2 r3 h) hk⟩
theorem st_weak {x1 x2 : Int} (hi : LawI i S I R s) (r1 : InR x1) (r2 : InR x2) (hk : ∀ S' I' R' s', LawI (i + 1) S' I' R' s' → K S' I' R') : sT S 1 = 9 ∧ CI G MX9_weak [vR 1, vI x1, vI x2] S I R (fun S1 I1 R1 x => sT S1 1310 = 10 ∧ CI G MX10_weak [vR 1310, vI x1, vI x2] S1 I1 R1 (fun S2 I2 R2 y => (x = y → K S2 I2 R2) ∧ (¬ (x = y) → Q S2 I2 R2 (vI 0)))) := by
  obtain ⟨P, sp, pd, ps, nu, nw, af, hS, hV⟩ := id hi.1
  exact ⟨hS.t1, law_case (A := fun y s'' => weakA s x1 x2 y s'') hi (fun Q1 h => cls_weak hS hi.2.1 hV (fun S' I' R' x s' hc hf hA hs' => h S' I' R' x s' hc hf (fun y s'' h2 => weak_det hA h2) hs')) (fun S' I' R' Q2 hr hv h => ref_weak hr hi.2.1 hv r1 r2 h) hk⟩
theorem st_kept {x1 x2 : Int} (hi : LawI i S I R s) (r1 : InR x1) (r2 : InR x2) (hk : ∀ S' I' R' s', LawI (i + 1) S' I' R' s' → K S' I' R') : sT S 1 = 9 ∧ CI G MX9_kept [vR 1, vI x1, vI x2] S I R (fun S1 I1 R1 x => sT S1 1310 = 10 ∧ CI G MX10_kept [vR 1310, vI x1, vI x2] S1 I1 R1 (fun S2 I2 R2 y => (x = y → K S2 I2 R2) ∧ (¬ (x = y) → Q S2 I2 R2 (vI 0)))) := by
  obtain ⟨P, sp, pd, ps, nu, nw, af, hS, hV⟩ := id hi.1
  exact ⟨hS.t1, law_case (A := fun y s'' => keptA s x1 x2 y s'') hi (fun Q1 h => cls_kept hS hi.2.1 hV (fun S' I' R' x s' hc hf hA => h S' I' R' x s' hc hf (fun y s'' h2 => kept_det hA h2) (kept_ok hi.2.1 hA))) (fun S' I' R' Q2 hr hv h => ref_kept hr hi.2.1 hv r1 r2 h) hk⟩
theorem st_step {x1 x2 : Int} (hi : LawI i S I R s) (r1 : InR x1) (r2 : InR x2) (hk : ∀ S' I' R' s', LawI (i + 1) S' I' R' s' → K S' I' R') : sT S 1 = 9 ∧ (pX9_step S I R 1 x1 x2) ∧ sT S 1310 = 10 ∧ CI G MX10_step [vR 1310, vI x1, vI x2] S I R (fun S2 I2 R2 y => ((vX9_step I R 1 x1 x2) = y → K S2 I2 R2) ∧ (¬ ((vX9_step I R 1 x1 x2) = y) → Q S2 I2 R2 (vI 0))) := by
  obtain ⟨P, sp, pd, ps, nu, nw, af, hS, hV⟩ := id hi.1
  have pv := pv_step (x1 := x1) (x2 := x2) hS hi.2.1 hV
  exact ⟨hS.t1, pv.1, law_pure (A := fun y => stepA s x1 x2 y) hi (fun y (hy : stepA s x1 x2 y) => Eq.trans hy (Eq.symm pv.2)) (fun Q2 h => ref_step hi.2.2.1 hi.2.1 hi.2.2.2.1 r1 r2 h) hk⟩
theorem st_corners {x1 x2 : Int} (hi : LawI i S I R s) (r1 : InR x1) (r2 : InR x2) (hk : ∀ S' I' R' s', LawI (i + 1) S' I' R' s' → K S' I' R') : sT S 1 = 9 ∧ CI G MX9_corners [vR 1, vI x1, vI x2] S I R (fun S1 I1 R1 x => sT S1 1310 = 10 ∧ CI G MX10_corners [vR 1310, vI x1, vI x2] S1 I1 R1 (fun S2 I2 R2 y => (x = y → K S2 I2 R2) ∧ (¬ (x = y) → Q S2 I2 R2 (vI 0)))) := by
  obtain ⟨P, sp, pd, ps, nu, nw, af, hS, hV⟩ := id hi.1
  exact ⟨hS.t1, law_case (A := fun y s'' => cornersA s x1 x2 y ∧ s'' = s) hi (fun Q1 h => cls_corners hS hi.2.1 hV (fun S' I' R' x hc hf hu => h S' I' R' x s hc hf (fun y s'' h2 => ⟨hu y h2.1, h2.2⟩) hi.2.1)) (fun S' I' R' Q2 hr hv h => ref_corners hr hi.2.1 hv r1 r2 (fun I'' y ho h1 h2 => h I'' y s ho.X (hv.oS hi.2.1 ho) ⟨⟨h1, h2⟩, rfl⟩)) hk⟩
theorem st_corner {x1 x2 x3 x4 : Int} (hi : LawI i S I R s) (r1 : InR x1) (r2 : InR x2) (r3 : InR x3) (r4 : InR x4) (hk : ∀ S' I' R' s', LawI (i + 1) S' I' R' s' → K S' I' R') : sT S 1 = 9 ∧ CI G MX9_corner [vR 1, vI x1, vI x2, vI x3, vI x4] S I R (fun S1 I1 R1 x => sT S1 1310 = 10 ∧ CI G MX10_corner [vR 1310, vI x1, vI x2, vI x3, vI x4] S1 I1 R1 (fun S2 I2 R2 y => (x = y → K S2 I2 R2) ∧ (¬ (x = y) → Q S2 I2 R2 (vI 0)))) := by
  obtain ⟨P, sp, pd, ps, nu, nw, af, hS, hV⟩ := id hi.1
  exact ⟨hS.t1, law_case (A := fun y s'' => tellA s x1 x2 x3 x4 2 y ∧ s'' = s) hi (fun Q1 h => cls_corner hS hi.2.1 hV r3 (fun S' I' R' x hc hf hu => h S' I' R' x s hc hf (fun y s'' h2 => ⟨hu y h2.1, h2.2⟩) hi.2.1)) (fun S' I' R' Q2 hr hv h => ref_corner hr hi.2.1 hv r1 r2 r3 r4 (fun I'' y ho h1 => h I'' y s ho.X (hv.oS hi.2.1 ho) ⟨h1, rfl⟩)) hk⟩
theorem st_stairs {x1 x2 x3 : Int} (hi : LawI i S I R s) (r1 : InR x1) (r2 : InR x2) (r3 : InR x3) (hk : ∀ S' I' R' s', LawI (i + 1) S' I' R' s' → K S' I' R') : sT S 1 = 9 ∧ CI G MX9_stairs [vR 1, vI x1, vI x2, vI x3] S I R (fun S1 I1 R1 x => sT S1 1310 = 10 ∧ CI G MX10_stairs [vR 1310, vI x1, vI x2, vI x3] S1 I1 R1 (fun S2 I2 R2 y => (x = y → K S2 I2 R2) ∧ (¬ (x = y) → Q S2 I2 R2 (vI 0)))) := by
  obtain ⟨P, sp, pd, ps, nu, nw, af, hS, hV⟩ := id hi.1
  exact ⟨hS.t1, law_case (A := fun y s'' => stairsA s x1 x2 x3 y ∧ s'' = s) hi (fun Q1 h => cls_stairs hS hi.2.1 hV (fun S' I' R' x hc hf hu => h S' I' R' x s hc hf (fun y s'' h2 => ⟨hu y h2.1, h2.2⟩) hi.2.1)) (fun S' I' R' Q2 hr hv h => ref_stairs hr hi.2.1 hv r1 r2 r3 (fun I'' y ho h1 => h I'' y s ho.X (hv.oS hi.2.1 ho) ⟨h1, rfl⟩)) hk⟩
theorem st_stair {x1 x2 x3 x4 : Int} (hi : LawI i S I R s) (r1 : InR x1) (r2 : InR x2) (r3 : InR x3) (r4 : InR x4) (hk : ∀ S' I' R' s', LawI (i + 1) S' I' R' s' → K S' I' R') : sT S 1 = 9 ∧ CI G MX9_stair [vR 1, vI x1, vI x2, vI x3, vI x4] S I R (fun S1 I1 R1 x => sT S1 1310 = 10 ∧ CI G MX10_stair [vR 1310, vI x1, vI x2, vI x3, vI x4] S1 I1 R1 (fun S2 I2 R2 y => (x = y → K S2 I2 R2) ∧ (¬ (x = y) → Q S2 I2 R2 (vI 0)))) := by
  obtain ⟨P, sp, pd, ps, nu, nw, af, hS, hV⟩ := id hi.1
  exact ⟨hS.t1, law_case (A := fun y s'' => tellA s x1 x2 x3 x4 0 y ∧ s'' = s) hi (fun Q1 h => cls_stair hS hi.2.1 hV r3 (fun S' I' R' x hc hf hu => h S' I' R' x s hc hf (fun y s'' h2 => ⟨hu y h2.1, h2.2⟩) hi.2.1)) (fun S' I' R' Q2 hr hv h => ref_stair hr hi.2.1 hv r1 r2 r3 r4 (fun I'' y ho h1 => h I'' y s ho.X (hv.oS hi.2.1 ho) ⟨h1, rfl⟩)) hk⟩
theorem st_rest {x1 x2 x3 x4 : Int} (hi : LawI i S I R s) (r1 : InR x1) (r2 : InR x2) (r3 : InR x3) (r4 : InR x4) (hk : ∀ S' I' R' s', LawI (i + 1) S' I' R' s' → K S' I' R') : sT S 1 = 9 ∧ CI G MX9_rest [vR 1, vI x1, vI x2, vI x3, vI x4] S I R (fun S1 I1 R1 x => sT S1 1310 = 10 ∧ CI G MX10_rest [vR 1310, vI x1, vI x2, vI x3, vI x4] S1 I1 R1 (fun S2 I2 R2 y => (x = y → K S2 I2 R2) ∧ (¬ (x = y) → Q S2 I2 R2 (vI 0)))) := by
  obtain ⟨P, sp, pd, ps, nu, nw, af, hS, hV⟩ := id hi.1
  exact ⟨hS.t1, law_case (A := fun y s'' => restA s x1 x2 x3 x4 y s'') hi (fun Q1 h => cls_rest hS hi.2.1 hV (fun S' I' R' x s' hc hf hA hs' => h S' I' R' x s' hc hf hA hs')) (fun S' I' R' Q2 hr hv h => ref_rest hr hi.2.1 hv r1 r2 r3 r4 h) hk⟩
theorem st_length {x1 x2 : Int} (hi : LawI i S I R s) (r1 : InR x1) (r2 : InR x2) (hk : ∀ S' I' R' s', LawI (i + 1) S' I' R' s' → K S' I' R') : sT S 1 = 9 ∧ CI G MX9_length [vR 1, vI x1, vI x2] S I R (fun S1 I1 R1 x => sT S1 1310 = 10 ∧ CI G MX10_length [vR 1310, vI x1, vI x2] S1 I1 R1 (fun S2 I2 R2 y => (x = y → K S2 I2 R2) ∧ (¬ (x = y) → Q S2 I2 R2 (vI 0)))) := by
  obtain ⟨P, sp, pd, ps, nu, nw, af, hS, hV⟩ := id hi.1
  exact ⟨hS.t1, law_case (A := fun y s'' => lengthA s x1 x2 y ∧ s'' = s) hi (fun Q1 h => cls_length hS hi.2.1 hV (fun S' I' R' x hc hf hu => h S' I' R' x s hc hf (fun y s'' h2 => ⟨hu y h2.1, h2.2⟩) hi.2.1)) (fun S' I' R' Q2 hr hv h => ref_length hr hi.2.1 hv r1 r2 (fun I'' y ho h1 => h I'' y s ho.X (hv.oS hi.2.1 ho) ⟨h1, rfl⟩)) hk⟩
theorem st_number {x1 x2 : Int} (hi : LawI i S I R s) (r1 : InR x1) (r2 : InR x2) (hk : ∀ S' I' R' s', LawI (i + 1) S' I' R' s' → K S' I' R') : sT S 1 = 9 ∧ CI G MX9_number [vR 1, vI x1, vI x2] S I R (fun S1 I1 R1 x => sT S1 1310 = 10 ∧ CI G MX10_number [vR 1310, vI x1, vI x2] S1 I1 R1 (fun S2 I2 R2 y => (x = y → K S2 I2 R2) ∧ (¬ (x = y) → Q S2 I2 R2 (vI 0)))) := by
  obtain ⟨P, sp, pd, ps, nu, nw, af, hS, hV⟩ := id hi.1
  exact ⟨hS.t1, law_case (A := fun y s'' => numberA s x1 x2 y ∧ s'' = s) hi (fun Q1 h => cls_number hS hi.2.1 hV (fun S' I' R' x hc hf hu => h S' I' R' x s hc hf (fun y s'' h2 => ⟨hu y h2.1, h2.2⟩) hi.2.1)) (fun S' I' R' Q2 hr hv h => ref_number hr hi.2.1 hv r1 r2 (fun I'' y ho h1 => h I'' y s ho.X (hv.oS hi.2.1 ho) ⟨h1, rfl⟩)) hk⟩
theorem st_all {x1 x2 : Int} (hi : LawI i S I R s) (r1 : InR x1) (r2 : InR x2) (hk : ∀ S' I' R' s', LawI (i + 1) S' I' R' s' → K S' I' R') : sT S 1 = 9 ∧ (pX9_all S I R 1 x1 x2) ∧ sT S 1310 = 10 ∧ CI G MX10_all [vR 1310, vI x1, vI x2] S I R (fun S2 I2 R2 y => ((vX9_all I R 1 x1 x2) = y → K S2 I2 R2) ∧ (¬ ((vX9_all I R 1 x1 x2) = y) → Q S2 I2 R2 (vI 0))) := by
  obtain ⟨P, sp, pd, ps, nu, nw, af, hS, hV⟩ := id hi.1
  have pv := pv_all (x1 := x1) (x2 := x2) hS hi.2.1 hV
  exact ⟨hS.t1, pv.1, law_pure (A := fun y => allA s x1 x2 y) hi (fun y hy => by
    by_cases q : (1 ≤ x1 ∧ x1 ≤ bd s.n) ∧ 0 ≤ x2 ∧ x2 ≤ 1
    · exact (hy.1 q).trans (pv.2.1 q).symm
    · exact (hy.2 q).trans (pv.2.2 q).symm) (fun Q2 h => ref_all hi.2.2.1 hi.2.1 hi.2.2.2.1 r1 r2 h) hk⟩
theorem st_look {x1 : Int} (hi : LawI i S I R s) (r1 : InR x1) (hk : ∀ S' I' R' s', LawI (i + 1) S' I' R' s' → K S' I' R') : sT S 1 = 9 ∧ CI G MX9_look [vR 1, vI x1] S I R (fun S1 I1 R1 x => sT S1 1310 = 10 ∧ CI G MX10_look [vR 1310, vI x1] S1 I1 R1 (fun S2 I2 R2 y => (x = y → K S2 I2 R2) ∧ (¬ (x = y) → Q S2 I2 R2 (vI 0)))) := by
  obtain ⟨P, sp, pd, ps, nu, nw, af, hS, hV⟩ := id hi.1
  exact ⟨hS.t1, law_case (A := fun y s'' => lookA s (hld s.f 255 8) x1 y ∧ s'' = s) hi (fun Q1 h => cls_look hS hV (fun x hx => h S I R x s hi.1 frC.rf (fun y s'' h2 => ⟨Eq.trans h2.1 (Eq.symm hx), h2.2⟩) hi.2.1)) (fun S' I' R' Q2 hr hv h => ref_look hr hi.2.1 hv  (fun I'' y ho h1 => h I'' y s ho.X (hv.oS hi.2.1 ho) ⟨h1, rfl⟩)) hk⟩
end STP
