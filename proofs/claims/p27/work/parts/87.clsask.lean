/-! ===== the class's answers: what asks only ===== -/
theorem v9isSlot {x : Int} : vX9_isSlot x ≠ 0 ↔ slt x := by
  unfold vX9_isSlot
  by_cases h1 : x < 0
  · rw [if_pos h1]; exact ⟨fun z => absurd rfl z, fun z => absurd h1 (by omega)⟩
  · by_cases h2 : 8 ≤ x
    · rw [if_neg h1, if_pos h2]; exact ⟨fun z => absurd rfl z, fun z => absurd h2 (by omega)⟩
    · rw [if_neg h1, if_neg h2]; exact ⟨fun _ => ⟨by omega, by omega⟩, fun _ => by decide⟩
theorem v9isSet {x : Int} : vX9_isSet x ≠ 0 ↔ set8 x := by
  unfold vX9_isSet
  by_cases h1 : x < 0
  · rw [if_pos h1]; exact ⟨fun z => absurd rfl z, fun z => absurd h1 (by omega)⟩
  · by_cases h2 : 256 ≤ x
    · rw [if_neg h1, if_pos h2]; exact ⟨fun z => absurd rfl z, fun z => absurd h2 (by omega)⟩
    · rw [if_neg h1, if_neg h2]; exact ⟨fun _ => ⟨by omega, by omega⟩, fun _ => by decide⟩
theorem v9isWeight {x : Int} : vX9_isWeight x ≠ 0 ↔ (1 ≤ x ∧ x ≤ 4) := by
  unfold vX9_isWeight
  by_cases h1 : x < 1
  · rw [if_pos h1]; exact ⟨fun z => absurd rfl z, fun z => absurd h1 (by omega)⟩
  · by_cases h2 : 4 < x
    · rw [if_neg h1, if_pos h2]; exact ⟨fun z => absurd rfl z, fun z => absurd h2 (by omega)⟩
    · rw [if_neg h1, if_neg h2]; exact ⟨fun _ => ⟨by omega, by omega⟩, fun _ => by decide⟩
section CL
variable {G : Gl} {S : Sh} {I : MI} {R : MR} {P : Nat → Nat} {sp pd ps nu nw af : Nat} {s : Ms}
theorem ClsS.t1 (h : ClsS S R P sp pd ps nu nw af) : sT S 1 = 9 := h.1.2.1
theorem ClsS.r0 (h : ClsS S R P sp pd ps nu nw af) : R 1 0 = 2 := h.1.2.2.1.1
theorem ClsS.r1 (h : ClsS S R P sp pd ps nu nw af) : R 1 1 = 11 := h.1.2.2.1.2.1
theorem ClsS.r2 (h : ClsS S R P sp pd ps nu nw af) : R 1 2 = 36 := h.1.2.2.1.2.2.1
theorem ClsS.r3 (h : ClsS S R P sp pd ps nu nw af) : R 1 3 = 42 := h.1.2.2.1.2.2.2
theorem ClsS.r4 (h : ClsS S R P sp pd ps nu nw af) : R 1 4 = 44 := h.1.2.2.2.1.1
theorem ClsS.r5 (h : ClsS S R P sp pd ps nu nw af) : R 1 5 = 791 := h.1.2.2.2.1.2.1
theorem ClsS.r6 (h : ClsS S R P sp pd ps nu nw af) : R 1 6 = 1288 := h.1.2.2.2.1.2.2
theorem ClsS.r8 (h : ClsS S R P sp pd ps nu nw af) : R 1 8 = sp := h.1.2.2.2.2.1
theorem ClsS.ring (h : ClsS S R P sp pd ps nu nw af) : RingL S R 2 := h.2.1.1
theorem ClsS.toNu (h : ClsS S R P sp pd ps nu nw af) : R 2 1 = nu := h.2.1.2
theorem ClsS.nut (h : ClsS S R P sp pd ps nu nw af) : sT S nu = 4 := h.1.1.2.2.2
theorem ClsS.sl (h : ClsS S R P sp pd ps nu nw af) : SlN S R 11 8 P := h.2.2.1
theorem ClsS.tp (h : ClsS S R P sp pd ps nu nw af) : TpS S R 36 := h.2.2.2.1
theorem ClsS.tx (h : ClsS S R P sp pd ps nu nw af) : TxtS S R 42 := h.2.2.2.2.1
theorem ClsS.dv (h : ClsS S R P sp pd ps nu nw af) : DivS S R 44 nw af := h.2.2.2.2.2.1
theorem ClsS.ia (h : ClsS S R P sp pd ps nu nw af) : (sT S 791 = 26 ∧ sL S 791 = 4) ∧ ∀ k, k < 4 → R 791 k = idA k ∧ IdS S R (idA k) := h.2.2.2.2.2.2.1
theorem ClsS.so (h : ClsS S R P sp pd ps nu nw af) : SlN S R 1288 4 (fun k => 1289 + 3 * k) := h.2.2.2.2.2.2.2.1
theorem ClsV.rt (h : ClsV S I P nu nw s) : RingT I 2 s.n s.w := h.1.1
theorem ClsV.nm (h : ClsV S I P nu nw s) : NumS S I nu (s.p : Int) := h.1.2
theorem ClsV.f (h : ClsV S I P nu nw s) : ∀ k, k < 8 → Has I (P k) (s.f k) := h.2.1
theorem ClsV.tp (h : ClsV S I P nu nw s) : TpB I 36 s.b s.tn ∧ I 36 2 = s.fl.1 ∧ I 36 3 = s.fl.2 := h.2.2.1
theorem ClsV.tx (h : ClsV S I P nu nw s) : HasT I 42 s.sh := h.2.2.2.1
theorem ClsV.dv (h : ClsV S I P nu nw s) : ClD I nw s.dv := h.2.2.2.2.1
theorem ClsV.nx (h : ClsV S I P nu nw s) : 0 ≤ I 1 7 ∧ I 1 7 < 4 := h.2.2.2.2.2.1
theorem ClsV.id (h : ClsV S I P nu nw s) : ∀ k, k < 4 → ClI I s (idA k) := h.2.2.2.2.2.2
theorem cls_out {Q : Sh → MI → MR → Int → Prop} (h : ClsS S R P sp pd ps nu nw af) (hs : MsOK s) (hv : ClsV S I P nu nw s) {x1 : Int} (hq : ∀ x, outA s x1 x → Q S I R x) : CI G MX9_out [vR 1, vI x1] S I R Q := by
  have hx := h.tx
  have ht := hv.tx
  have hl := hs.2.2.2.2.2.1
  refine sX9_out ?_ (hq _ ?_)
  · unfold pX9_out
    rw [h.r3, hx.2.1, ht.1]
    refine ⟨fun _ => trivial, fun c => ⟨h.t1, hx.1, fun _ => trivial, fun d => ⟨hx.2.2.1, ⟨by omega, ?_⟩, trivial⟩⟩⟩
    have := hx.2.2.2
    rw [this]; omega
  · unfold outA vX9_out
    rw [h.r3, hx.2.1, ht.1]
    by_cases c : x1 < 0
    · rw [if_pos c, if_neg (by omega)]
    · by_cases d : (s.sh.length : Int) ≤ x1
      · rw [if_neg c, if_pos d, if_neg (by omega)]
      · rw [if_neg c, if_neg d, if_pos (by omega)]
        have hj : x1.toNat < s.sh.length := by omega
        rw [ht.2 x1.toNat s.sh[x1.toNat] (List.getElem?_eq_getElem hj), List.getD_eq_getElem?_getD, List.getElem?_eq_getElem hj]; rfl
theorem ClsS.slot (h : ClsS S R P sp pd ps nu nw af) {x : Int} (hx : slt x) : (sT S 11 = 24 ∧ (0 ≤ x ∧ x < (sL S 11 : Int))) ∧ R 11 x.toNat = P x.toNat ∧ PolyS S R (P x.toNat) 60 := by
  have q := h.sl.2 x.toNat (by omega)
  exact ⟨⟨h.sl.1.1, by rw [h.sl.1.2]; omega⟩, q.1, q.2⟩
theorem cls_term {Q : Sh → MI → MR → Int → Prop} (h : ClsS S R P sp pd ps nu nw af) (hs : MsOK s) (hv : ClsV S I P nu nw s) {x1 x2 x3 : Int} (hq : ∀ x, termA s x1 x2 x3 x → Q S I R x) : CI G MX9_term [vR 1, vI x1, vI x2, vI x3] S I R Q := by
  by_cases c : slt x1
  · obtain ⟨⟨t11, l11⟩, e11, po⟩ := h.slot c
    have hL := hv.f x1.toNat (by omega)
    have ok := hs.2.2.2.1 x1.toNat (by omega)
    have hl60 := ok.2.2
    have at' : ∀ (z0 : ¬ x2 < 0) (z1 : ¬ ((s.f x1.toNat).length : Int) ≤ x2), ∃ hj : x2.toNat < (s.f x1.toNat).length, I (P x1.toNat + 1) x2.toNat = ((s.f x1.toNat)[x2.toNat]).1 ∧ I (P x1.toNat + 2) x2.toNat = ((s.f x1.toNat)[x2.toNat]).2 ∧ (s.f x1.toNat).getD x2.toNat (0, 0) = (s.f x1.toNat)[x2.toNat] ∧ InR ((s.f x1.toNat)[x2.toNat]).1 := by
      intro z0 z1
      have hj : x2.toNat < (s.f x1.toNat).length := by omega
      have a := hL.at hj
      exact ⟨hj, a.1, a.2, by rw [List.getD_eq_getElem?_getD, List.getElem?_eq_getElem hj]; rfl, by have q := ok.ms _ (List.getElem_mem hj); unfold okm at q; unfold InR; omega⟩
    refine sX9_term ?_ (hq _ ?_)
    · unfold pX9_term
      rw [h.r1, e11, po.2.1, po.2.2.1, hL.1]
      refine ⟨fun _ => ⟨h.t1, t11, l11, fun _ => ⟨fun _ => trivial, fun z0 => ⟨po.1, fun _ => trivial, fun z1 => ⟨fun _ => trivial, fun _ => ⟨fun _ => ⟨fun _ => ⟨po.2.2.2.1, ⟨by omega, ?_⟩, trivial⟩, fun _ => ⟨po.2.2.2.2.1, ⟨by omega, ?_⟩, trivial⟩⟩, fun _ => trivial⟩⟩⟩⟩, fun _ => ⟨po.1, trivial⟩⟩, fun _ => trivial⟩
      · rw [po.2.2.2.2.2.1]; omega
      · rw [po.2.2.2.2.2.2]; omega
    · unfold termA vX9_term
      rw [h.r1, e11, po.2.1, po.2.2.1, hL.1, if_pos (v9isSlot.mpr c), if_pos c]
      by_cases d : x2 = -1
      · rw [if_neg (fun z => z d), if_pos d]
      · rw [if_pos d, if_neg d]
        by_cases z0 : x2 < 0
        · rw [if_pos z0, if_neg (by omega)]
        · by_cases z1 : ((s.f x1.toNat).length : Int) ≤ x2
          · rw [if_neg z0, if_pos z1, if_neg (by omega)]
          · have g : 0 ≤ x2 ∧ x2 < ((s.f x1.toNat).length : Int) := by omega
            rw [if_neg z0, if_neg z1, if_pos g]
            obtain ⟨hj, a1, a2, a3, a4⟩ := at' z0 z1
            rw [a1, a2, a3]
            unfold tellT vX9_tellMono
            by_cases y0 : x3 < 0
            · rw [if_pos y0, if_neg (by omega), if_neg (by omega), if_neg (by omega), if_neg (by omega), if_neg (by omega)]
            · by_cases y4 : x3 ≤ 4
              · rw [if_neg y0, if_pos y4]
                by_cases y : x3 = 0
                · rw [if_neg (fun z => z y), if_pos y]
                · rw [if_pos y, if_neg y, w32_id (x := x3 - 1) (by omega)]
                  by_cases y1 : x3 = 1
                  · rw [y1, if_pos (by decide), if_pos rfl, vexp a4 (by omega)]; rfl
                  · by_cases y2 : x3 = 2
                    · rw [y2, if_pos (by decide), if_neg (by decide), if_pos rfl, vexp a4 (by omega)]; rfl
                    · by_cases y3 : x3 = 3
                      · rw [y3, if_pos (by decide), if_neg (by decide), if_neg (by decide), if_pos rfl, vexp a4 (by omega)]; rfl
                      · have y5 : x3 = 4 := by omega
                        rw [y5, if_neg (by decide), if_neg (by decide), if_neg (by decide), if_neg (by decide), if_pos rfl, vdeg a4]
              · rw [if_neg y0, if_neg y4, if_neg (by omega), if_neg (by omega), if_neg (by omega), if_neg (by omega), if_neg (by omega)]
  · refine sX9_term ?_ (hq _ ?_)
    · unfold pX9_term
      exact ⟨fun z => absurd (v9isSlot.mp z) c, fun _ => trivial⟩
    · unfold termA vX9_term
      rw [if_neg (fun z => c (v9isSlot.mp z)), if_neg c]
theorem cls_shape {Q : Sh → MI → MR → Int → Prop} (h : ClsS S R P sp pd ps nu nw af) (hs : MsOK s) (hv : ClsV S I P nu nw s) {x1 x2 : Int} (hq : ∀ x, shapeA s x1 x2 x → Q S I R x) : CI G MX9_shape [vR 1, vI x1, vI x2] S I R Q := by
  by_cases c : slt x1
  · obtain ⟨⟨t11, l11⟩, e11, po⟩ := h.slot c
    have hL := hv.f x1.toNat (by omega)
    have ok := hs.2.2.2.1 x1.toNat (by omega)
    have hl60 := ok.2.2
    have pl := p5low po hL hl60
    have ph := p5high po hL hl60 (by omega)
    have pe := p5ec po hL hl60 (by omega)
    have vl := v5low po hL ok.ms
    have vh := v5high po hL ok.ms (by omega)
    have ve := v5ec po hL ok.ms (by omega)
    refine sX9_shape ?_ (hq _ ?_)
    · unfold pX9_shape
      rw [h.r1, e11]
      exact ⟨fun _ => ⟨h.t1, t11, l11, fun _ => ⟨po.1, pl, trivial⟩, fun _ => ⟨fun _ => ⟨po.1, ph, trivial⟩, fun _ => ⟨fun _ => ⟨po.1, pe, trivial⟩, fun _ => ⟨fun _ => ⟨po.1, pl, ph, trivial⟩, fun _ => ⟨fun _ => ⟨po.1, pl, trivial⟩, fun _ => trivial⟩⟩⟩⟩⟩, fun _ => trivial⟩
    · unfold shapeA vX9_shape
      rw [h.r1, e11, if_pos (v9isSlot.mpr c), if_pos c, vl, vh, ve]
      by_cases y0 : x2 = 0
      · rw [if_pos y0, if_pos y0]
      · rw [if_neg y0, if_neg y0]
        by_cases y1 : x2 = 1
        · rw [if_pos y1, if_pos y1]
        · rw [if_neg y1, if_neg y1]
          by_cases y2 : x2 = 2
          · rw [if_pos y2, if_pos y2]
          · rw [if_neg y2, if_neg y2]
            by_cases y3 : x2 = 3
            · rw [if_pos y3, if_pos y3]
              by_cases z : lowL (s.f x1.toNat) = highL (s.f x1.toNat)
              · rw [if_neg (fun y => y z), if_pos z]
              · rw [if_pos z, if_neg z]
            · rw [if_neg y3, if_neg y3]
              by_cases y4 : x2 = 4
              · rw [if_pos y4, if_pos y4]
                by_cases z : lowL (s.f x1.toNat) = 0
                · rw [if_neg (fun y => y z), if_pos z]
                · rw [if_pos z, if_neg z]
              · rw [if_neg y4, if_neg y4]
  · refine sX9_shape ?_ (hq _ ?_)
    · unfold pX9_shape
      exact ⟨fun z => absurd (v9isSlot.mp z) c, fun _ => trivial⟩
    · unfold shapeA vX9_shape
      rw [if_neg (fun z => c (v9isSlot.mp z)), if_neg c]
theorem v9isBound (h : ClsS S R P sp pd ps nu nw af) (hv : ClsV S I P nu nw s) {x : Int} : vX9_isBound I R 1 x ≠ 0 ↔ (1 ≤ x ∧ x ≤ bd s.n) := by
  unfold vX9_isBound
  rw [h.r0, v6bound hv.rt.1]
  by_cases h1 : x < 1
  · rw [if_pos h1]; exact ⟨fun z => absurd rfl z, fun z => absurd h1 (by omega)⟩
  · by_cases h2 : bd s.n < x
    · rw [if_neg h1, if_pos h2]; exact ⟨fun z => absurd rfl z, fun z => absurd h2 (by omega)⟩
    · rw [if_neg h1, if_neg h2]; exact ⟨fun _ => ⟨by omega, by omega⟩, fun _ => by decide⟩
theorem p9isBound (h : ClsS S R P sp pd ps nu nw af) {x : Int} : pX9_isBound S R 1 x := by
  unfold pX9_isBound
  rw [h.r0]
  exact ⟨fun _ => trivial, fun _ => ⟨h.t1, h.ring.1, p6bound h.ring.1, trivial⟩⟩
theorem held_spec {Q : Sh → MI → MR → Int → Prop} (h : ClsS S R P sp pd ps nu nw af) (hv : ClsV S I P nu nw s) {st : Int} (hst : set8 st) (hq : Q S I R (hld s.f st 8)) : CI G MX9_held [vR 1, vI st] S I R Q := by
  have loop : ∀ (q k : Nat), 8 - k = q → k ≤ 8 → LX9_held_4 G 1 st (hld s.f st k) (k : Int) S I R Q := by
    intro q
    induction q with
    | zero =>
      intro k hq1 hk
      have ek : k = 8 := by omega
      rw [ek]
      exact bX9_held_4 (br_t (by omega) hq)
    | succ q ih =>
      intro k hq1 hk
      have hL := hv.f k (by omega)
      have po := h.sl.2 k (by omega)
      refine bX9_held_4 (br_f (by omega) ?_)
      rw [vbit ⟨hst.1, by omega⟩ (by omega), h.r1, show Int.toNat (k : Int) = k by omega, po.1, hL.1, add1 (n := k) (by omega), ior_hld (by omega) (hld_r s.f st k), h.sl.1.1, h.sl.1.2]
      have nx := ih (k + 1) (by omega) (by omega)
      rw [hld] at nx
      refine ⟨fun c => ?_, fun c => ⟨h.t1, rfl, ⟨by omega, by omega⟩, po.2.1, fun d => ?_, fun d => ?_⟩⟩
      · rw [if_neg (fun z => c z.1), Int.add_zero] at nx; exact nx
      · rw [if_neg (fun z => z.2 (List.eq_nil_of_length_eq_zero (by omega))), Int.add_zero] at nx; exact nx
      · rw [if_pos ⟨Decidable.not_not.mp c, fun z => d (by rw [z]; exact Int.le_refl _)⟩] at nx; exact nx
  exact bX9_held (loop 8 0 rfl (by omega))
theorem cls_look {Q : Sh → MI → MR → Int → Prop} (h : ClsS S R P sp pd ps nu nw af) (hv : ClsV S I P nu nw s) {x1 : Int} (hq : ∀ x, lookA s (hld s.f 255 8) x1 x → Q S I R x) : CI G MX9_look [vR 1, vI x1] S I R Q := by
  refine bX9_look ?_
  unfold lookA at hq
  have hr := h.ring
  have hrv := hv.rt.1
  rw [h.r0, h.r2, h.r4, hr.2.1.1, hr.2.2.1.1, hr.2.2.2.1.1, h.toNu]
  refine ⟨fun z0 => ⟨h.t1, hr.1, hq _ (by rw [if_pos z0]; exact hrv.1)⟩, fun z0 => ⟨fun z1 => ⟨h.t1, hr.1, h.nut, hq _ (by rw [if_neg z0, if_pos z1]; exact hv.nm.2.1)⟩, fun z1 => ⟨fun z2 => ⟨h.t1, hr.1, rfl, ?_⟩, fun z2 => ⟨fun z3 => ⟨h.t1, hr.1, rfl, ?_⟩, fun z3 => ⟨fun z4 => ⟨h.t1, hr.1, rfl, ?_⟩, fun z4 => ⟨fun z5 => ⟨h.t1, hr.1, p6bound hr.1, hq _ (by rw [if_neg z0, if_neg z1, if_neg z2, if_neg z3, if_neg z4, if_pos z5]; exact v6bound hrv)⟩, fun z5 => ⟨fun z6 => ⟨h.t1, held_spec h hv ⟨by decide, by decide⟩ (hq _ (by rw [if_neg z0, if_neg z1, if_neg z2, if_neg z3, if_neg z4, if_neg z5, if_pos z6]))⟩, fun z6 => ⟨fun z7 => ⟨h.t1, h.tp.1, hq _ (by rw [if_neg z0, if_neg z1, if_neg z2, if_neg z3, if_neg z4, if_neg z5, if_neg z6, if_pos z7]; exact hv.tp.1.1)⟩, fun z7 => ?_⟩⟩⟩⟩⟩⟩⟩⟩
  · rw [z2, show w32 (2 - 2) = 0 by decide]
    exact ⟨by omega, hq _ (by rw [if_neg z0, if_neg z1, if_pos z2]; exact hrv.2.2.1 0 (by omega))⟩
  · rw [z3, show w32 (3 - 2) = 1 by decide]
    exact ⟨by omega, hq _ (by rw [if_neg z0, if_neg z1, if_neg z2, if_pos z3]; exact hrv.2.2.1 1 (by omega))⟩
  · rw [z4, show w32 (4 - 2) = 2 by decide]
    exact ⟨by omega, hq _ (by rw [if_neg z0, if_neg z1, if_neg z2, if_neg z3, if_pos z4]; exact hrv.2.2.1 2 (by omega))⟩
  · rw [if_neg z0, if_neg z1, if_neg z2, if_neg z3, if_neg z4, if_neg z5, if_neg z6, if_neg z7] at hq
    have hd := hv.dv
    have td := h.dv.1
    have t1 := h.t1
    revert hd hq
    generalize s.dv = dv
    intro hq hd
    cases dv with
    | none =>
      have h20 : I 44 0 = 0 := hd
      rw [h20]
      exact ⟨fun z8 => ⟨t1, td, fun _ => hq _ (if_pos z8).symm, fun z => absurd rfl z⟩, fun z8 => ⟨fun z9 => ⟨t1, td, fun _ => hq _ (if_neg z8).symm, fun z => absurd rfl z⟩, fun z9 => ⟨fun z10 => ⟨t1, td, fun _ => hq _ (if_neg z8).symm, fun z => absurd rfl z⟩, fun z10 => hq _ (if_neg z8).symm⟩⟩⟩
    | some x =>
      obtain ⟨st, a, d⟩ := x
      have h2 : I 44 0 = 1 ∧ I 44 1 = st ∧ I 44 2 = (a : Int) ∧ DivV I 44 nw d := hd
      have hq2 : ∀ (x : Int), x = (if x1 = 8 then 1 else if x1 = 9 then st else if x1 = 10 then (a : Int) else -1) → Q S I R x := hq
      rw [h2.1, h2.2.1, h2.2.2.1]
      exact ⟨fun z8 => ⟨t1, td, fun z => absurd z (by decide), fun _ => hq2 _ (if_pos z8).symm⟩, fun z8 => ⟨fun z9 => ⟨t1, td, fun z => absurd z (by decide), fun _ => hq2 _ (by rw [if_neg z8, if_pos z9])⟩, fun z9 => ⟨fun z10 => ⟨t1, td, fun z => absurd z (by decide), fun _ => hq2 _ (by rw [if_neg z8, if_neg z9, if_pos z10])⟩, fun z10 => hq2 _ (by rw [if_neg z8, if_neg z9, if_neg z10])⟩⟩⟩
theorem cls_step {Q : Sh → MI → MR → Int → Prop} (h : ClsS S R P sp pd ps nu nw af) (hs : MsOK s) (hv : ClsV S I P nu nw s) {x1 x2 : Int} (hq : ∀ x, stepA s x1 x2 x → Q S I R x) : CI G MX9_step [vR 1, vI x1, vI x2] S I R Q := by
  have hdv := hv.dv
  have hok := hs.2.2.2.2.2.2
  unfold stepA at hq
  revert hdv hok hq
  generalize s.dv = dv
  intro hq hdv hok
  cases dv with
  | none =>
    have h20 : I 44 0 = 0 := hdv
    refine sX9_step ?_ (hq _ ?_)
    · unfold pX9_step
      rw [h.r4, h20]
      exact ⟨h.t1, h.dv.1, fun z => absurd rfl z, fun _ => trivial⟩
    · unfold vX9_step
      rw [h.r4, h20]; rfl
  | some y =>
    obtain ⟨st, a, d⟩ := y
    have h2 : I 44 0 = 1 ∧ I 44 1 = st ∧ I 44 2 = (a : Int) ∧ DivV I 44 nw d := hdv
    have ok2 : (0 ≤ st ∧ st < 256) ∧ a < 8 ∧ DivO (s.p : Int) s.n s.w d := hok
    have hq2 : ∀ (x : Int), x = (if x1 = -1 then (if x2 = 0 then (d.1 : Int) else if x2 = 1 then (d.2.1 : Int) else if x2 = 2 then 1 else -1) else if (0 ≤ x1 ∧ x1 < (d.1 : Int)) ∧ 0 ≤ x2 ∧ x2 ≤ 4 then d.2.2.2.2 x1.toNat x2.toNat else -1) → Q S I R x := hq
    have c40 := ok2.2.2.1.1
    have e1 : I 44 3 = (d.1 : Int) := h2.2.2.2.1.1
    have e2 : I 44 4 = (d.2.1 : Int) := h2.2.2.2.1.2
    have hd := h.dv
    have row : ∀ (z0 : ¬ x1 < 0) (z1 : ¬ 40 ≤ x1), R (44 + 2) x1.toNat = 44 + 3 + x1.toNat ∧ sT S (44 + 3 + x1.toNat) = 21 ∧ sL S (44 + 3 + x1.toNat) = 5 := fun z0 z1 => hd.2.2.2.2.1 x1.toNat (by omega)
    have r46 : R 44 6 = 46 := hd.2.1.2.1
    refine sX9_step ?_ (hq2 _ ?_)
    · unfold pX9_step
      rw [h.r4, h2.1]
      refine ⟨h.t1, hd.1, fun _ => ⟨fun _ => ⟨?_, trivial⟩, fun _ => ⟨?_, trivial⟩⟩, fun _ => trivial⟩
      · unfold pX0_tellStep
        rw [r46]
        refine ⟨fun _ => trivial, fun z0 => ⟨hd.1, fun _ => trivial, fun _ => ⟨fun _ => trivial, fun z1 => ⟨fun _ => trivial, fun z2 => ⟨fun z3 => ?_, fun _ => trivial⟩⟩⟩⟩⟩
        have w := row z0 z1
        rw [show R 46 x1.toNat = 44 + 3 + x1.toNat from w.1]
        refine ⟨hd.2.2.2.1.2.2.1, ⟨by omega, ?_⟩, w.2.1, ⟨by omega, ?_⟩, trivial⟩
        · have : sL S 46 = 40 := hd.2.2.2.1.2.2.2
          rw [this]; omega
        · rw [w.2.2]; omega
      · unfold pX0_tellWhole
        exact ⟨fun _ => ⟨fun _ => trivial, fun _ => ⟨hd.1, trivial⟩⟩, fun _ => ⟨hd.1, trivial⟩⟩
    · unfold vX9_step
      rw [h.r4, h2.1, if_pos (by decide)]
      by_cases c : x1 = -1
      · rw [if_neg (fun z => z c), if_pos c]
        unfold vX0_tellWhole
        rw [e1, e2]
        by_cases y0 : x2 = 0
        · rw [if_neg (fun z => z y0), if_pos y0]
        · rw [if_pos y0, if_neg y0]
          by_cases y1 : x2 = 1
          · rw [if_neg (fun z => z y1), if_pos y1]
          · rw [if_pos y1, if_neg y1]
            by_cases y2 : x2 = 2
            · rw [if_neg (fun z => z y2), if_pos y2]
            · rw [if_pos y2, if_neg y2]
      · rw [if_pos c, if_neg c]
        unfold vX0_tellStep
        rw [e1, r46]
        by_cases z0 : x1 < 0
        · rw [if_pos z0, if_neg (by omega)]
        · by_cases z1 : (d.1 : Int) ≤ x1
          · rw [if_neg z0, if_pos z1, if_neg (by omega)]
          · by_cases z2 : x2 < 0
            · rw [if_neg z0, if_neg z1, if_neg (by omega), if_pos z2, if_neg (by omega)]
            · by_cases z3 : x2 < 5
              · rw [if_neg z0, if_neg z1, if_neg (by omega), if_neg z2, if_pos z3, if_pos (by omega)]
                have w := row z0 (by omega)
                rw [show R 46 x1.toNat = 44 + 3 + x1.toNat from w.1]
                exact h2.2.2.2.2.2.2 x1.toNat (by omega) x2.toNat (by omega)
              · rw [if_neg z0, if_neg z1, if_neg (by omega), if_neg z2, if_neg z3, if_neg (by omega)]
end CL

