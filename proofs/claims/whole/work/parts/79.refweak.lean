/-! ===== X10: weak division ===== -/
section RWK
variable {G : Gl} {S : Sh} {R : MR} {m : Nat} {n : Int} {pr : Nat} {w : Nat → Int} {st : Int}
theorem DvH.parts {I : MI} {d : Dv} : DvH I m st d ↔ (I m 23 = (nb st 8 : Int) ∧ I m 24 = (d.2.1 : Int) ∧ I m 25 = (d.1 : Int)) ∧ NowH I m st d.2.2.2.1 ∧ ThH I m st d.2.2.1 d.2.1 ∧ TldH I m d.1 d.2.2.2.2 := Iff.rfl
theorem steps_spec {I : MI} {Q : Sh → MI → MR → Int → Prop} {d : Dv} {k : Nat} (h : RfS S R m) (hw : RfW I m n w) (hp : RfP I m (pr : Int)) (pp : isP pr) (hD : DvH I m st d) (hO : DivO (pr : Int) n w d) (hM : DvM (pr : Int) st d) (hk : k < d.2.1) (nE : d.2.2.2.1.1 ≠ []) (hd : dvs (hdM (d.2.2.1 k).1) (hdM d.2.2.2.1.1))
    (hF0 : ∀ I', (badD d k ∨ ¬ fitE (nowD (pr : Int) d.2.2.2.1 (d.2.2.1 k))) → offW I I' m → Q S I' R 0)
    (hS : ∀ I', ¬ (badD d k ∨ ¬ fitE (nowD (pr : Int) d.2.2.2.1 (d.2.2.1 k))) → offW I I' m → I' m 20 = I m 20 ∧ I' m 21 = I m 21 ∧ I' m 22 = I m 22 → DvH I' m st (stpD (pr : Int) d k) → Q S I' R 1) : CI G MX10_steps [vR m, vI (k : Int)] S I R Q := by
  have n8 := nbb_le st 8
  have hD2 := DvH.parts.mp hD
  have c40 := hO.1
  have nF := hM.2.1 k hk
  have oE := hO.2.1
  have oF := hO.2.2 k hk
  have hTk := (hD2.2.2.1 k hk).1
  have r1 : vX10_rowOf m (k : Int) 0 = ((8 + 10 * k : Nat) : Int) := v10row (m := m) (a := k) (c := 0) (by omega) (by omega)
  have r2 : vX10_rowOf m 21 0 = ((218 : Nat) : Int) := v10row (m := m) (a := 21) (c := 0) (by omega) (by omega)
  have eT := v10ec h hw (show 8 + 10 * k < 300 by omega) oF.1.toR hTk nF
  have eE := v10ec h hw (show 218 < 300 by omega) oE.1.toR hD2.2.1.1 nE
  refine bX10_steps ⟨h.1, ?_⟩
  rw [hD2.1.2.2, r1, r2, eT.2, eE.2, hD2.1.2.1]
  refine ⟨fun c => ?_, fun c => hF0 I (Or.inl (Or.inl (by have := Decidable.not_not.mp c; omega))) offW.rf⟩
  have hlt : d.1 < 40 := by omega
  -- after what is told
  have main : ∀ (cm : Int) (J : MI), (cm = 0 ∨ cm = 1) → (cm = 1 ↔ ecL d.2.2.2.1.1 < ecL (d.2.2.1 k).1) → ¬ badD d k → rwS I J m → offW I J m → (∀ j, j ≠ 25 → J m j = I m j) → J m 25 = ((d.1 + 1 : Nat) : Int) → TldH J m (d.1 + 1) (upT d.2.2.2.2 d.1 (rowD k d.2.2.2.1 (d.2.2.1 k))) → (cm = 0 → LX10_steps_218 G m (k : Int) ((218 : Nat) : Int) ((8 + 10 * k : Nat) : Int) S J R Q) ∧ (¬ cm = 0 → LX10_steps_169 G m (k : Int) ((218 : Nat) : Int) ((8 + 10 * k : Nat) : Int) 0 S J R Q) := by
    intro cm J hcm hcm2 nbad rs oJ fm f25 tl
    have hwJ := hw.oW oJ
    have hpJ := hp.oW oJ
    have nowJ := hD2.2.1.rs rs
    have thJ := hD2.2.2.1.rs rs
    have fin : ∀ (J2 : MI), offW J J2 m → (∀ j, 20 ≤ j → j ≤ 25 → j ≠ 24 → J2 m j = J m j) → J2 (m + 10) = J (m + 10) → J2 m 24 = (((stpT d k).1 : Nat) : Int) → NowH J2 m st d.2.2.2.1 → ThH J2 m st (stpT d k).2 (stpT d k).1 → (stpT d k).1 ≤ 20 → (∀ i, i < (stpT d k).1 → okE3 (pr : Int) n w ((stpT d k).2 i)) → k < (stpT d k).1 → (stpT d k).2 k = d.2.2.1 k → LX10_steps_218 G m (k : Int) ((218 : Nat) : Int) ((8 + 10 * k : Nat) : Int) S J2 R Q := by
      intro J2 o2 f2 e10 h24 hN hT hc20 oT hkc hTk2
      refine step_main h (hwJ.oW o2) (hpJ.oW o2) pp ((f2 23 (by omega) (by omega) (by omega)).trans ((fm 23 (by omega)).trans hD2.1.1)) hN hT oE oT hc20 hkc hTk2 nE nF hd (fun j hj hb => ⟨(hM.2.2.1 j hj hb).1, (hM.2.2.1 j hj hb).2 k hk⟩) (fun hkn => hM.2.2.2 k hkn) (fun I' nf o3 f3 => hF0 I' (Or.inr nf) ((oJ.tr o2).tr o3)) (fun I' ft o3 f3 e3 hN3 hT3 => hS I' (fun z => z.elim nbad (fun y => y ft)) ((oJ.tr o2).tr o3) ⟨?_, ?_, ?_⟩ (DvH.parts.mpr ⟨⟨?_, ?_, ?_⟩, hN3, hT3, tl.o (e3.trans e10)⟩))
      · rw [f3 20 (by omega) (by omega), f2 20 (by omega) (by omega) (by omega), fm 20 (by omega)]
      · rw [f3 21 (by omega) (by omega), f2 21 (by omega) (by omega) (by omega), fm 21 (by omega)]
      · rw [f3 22 (by omega) (by omega), f2 22 (by omega) (by omega) (by omega), fm 22 (by omega)]
      · rw [f3 23 (by omega) (by omega), f2 23 (by omega) (by omega) (by omega), fm 23 (by omega)]; exact hD2.1.1
      · rw [f3 24 (by omega) (by omega)]; exact h24
      · rw [f3 25 (by omega) (by omega), f2 25 (by omega) (by omega) (by omega)]; exact f25
    refine ⟨fun z0 => ?_, fun z0 => ?_⟩
    · have ncm : ¬ ecL d.2.2.2.1.1 < ecL (d.2.2.1 k).1 := fun y => by have := hcm2.mpr y; omega
      have es : stpT d k = (d.2.1, d.2.2.1) := by unfold stpT; rw [if_neg ncm]
      refine fin J offW.rf (fun _ _ _ _ => rfl) rfl ?_ nowJ ?_ ?_ ?_ ?_ ?_
      · rw [es, fm 24 (by omega)]; exact hD2.1.2.1
      · rw [es]; exact thJ
      · rw [es]; exact hO.1.2
      · rw [es]; exact hO.2.2
      · rw [es]; exact hk
      · rw [es]
    · have ycm : ecL d.2.2.2.1.1 < ecL (d.2.2.1 k).1 := hcm2.mp (by omega)
      have es : stpT d k = (d.2.1 + 1, upT d.2.2.1 d.2.1 d.2.2.2.1) := by unfold stpT; rw [if_pos ycm]
      have hl20 : d.2.1 < 20 := Nat.lt_of_not_le (fun z => nbad (Or.inr ⟨ycm, z⟩))
      have loop : ∀ (q i : Nat) (J2 : MI), 2 + nb st 8 - i = q → i ≤ 2 + nb st 8 → offW J J2 m → J2 m = J m → J2 (m + 10) = J (m + 10) → NowH J2 m st d.2.2.2.1 → ThH J2 m st d.2.2.1 d.2.1 → (0 < i → RowH J2 m (8 + 10 * d.2.1) d.2.2.2.1.1) → (1 < i → RowH J2 m (9 + 10 * d.2.1) d.2.2.2.1.2.1) → (∀ j, j < 8 → bitI st j = 1 → nb st j + 2 < i → RowH J2 m (10 + 10 * d.2.1 + nb st j) (d.2.2.2.1.2.2 j)) → LX10_steps_169 G m (k : Int) ((218 : Nat) : Int) ((8 + 10 * k : Nat) : Int) (i : Int) S J2 R Q := by
        intro q
        induction q with
        | zero =>
          intro i J2 hq1 hi o2 em e10 hN hT g0 g1 g2
          refine bX10_steps_169 ⟨h.1, ?_⟩
          rw [em, fm 23 (by omega), fm 24 (by omega), hD2.1.1, hD2.1.2.1, w32_id (by omega), add1 (n := d.2.1) (by omega)]
          refine br_t (by omega) (fun J3 f3 => ?_)
          have rs3 := up_rs f3 (Or.inl rfl)
          refine fin J3 (o2.tr (offW.u f3 (Or.inl ⟨rfl, by omega⟩))) (fun j a b c2 => by rw [u_o f3 c2, em]) (by rw [u_n f3 (by omega)]; exact e10) ?_ (hN.rs rs3) ?_ ?_ ?_ ?_ ?_
          · rw [es]; exact u_s f3
          · rw [es]
            intro i2 hi2
            have hi2' : i2 < d.2.1 + 1 := hi2
            show RowH J3 m (8 + 10 * i2) (if i2 = d.2.1 then d.2.2.2.1 else d.2.2.1 i2).1 ∧ _
            by_cases e : i2 = d.2.1
            · have e' : upT d.2.2.1 d.2.1 d.2.2.2.1 i2 = d.2.2.2.1 := if_pos e
              refine ⟨by rw [if_pos e, e]; exact (g0 (by omega)).rs rs3, fun _ => ⟨?_, fun j hj hb => ?_⟩⟩
              · show RowH J3 m (9 + 10 * i2) (upT d.2.2.1 d.2.1 d.2.2.2.1 i2).2.1
                rw [e', e]; exact (g1 (by omega)).rs rs3
              · show RowH J3 m (10 + 10 * i2 + nb st j) ((upT d.2.2.1 d.2.1 d.2.2.2.1 i2).2.2 j)
                rw [e', e]; exact (g2 j hj hb (by have := nb_lt (st := st) (i := j) (j := 8) hj hb; omega)).rs rs3
            · have e' : upT d.2.2.1 d.2.1 d.2.2.2.1 i2 = d.2.2.1 i2 := if_neg e
              have t := hT i2 (by omega)
              refine ⟨by rw [if_neg e]; exact t.1.rs rs3, fun q2 => ⟨?_, fun j hj hb => ?_⟩⟩
              · show RowH J3 m (9 + 10 * i2) (upT d.2.2.1 d.2.1 d.2.2.2.1 i2).2.1
                rw [e']; exact (t.2 q2).1.rs rs3
              · show RowH J3 m (10 + 10 * i2 + nb st j) ((upT d.2.2.1 d.2.1 d.2.2.2.1 i2).2.2 j)
                rw [e']; exact ((t.2 q2).2 j hj hb).rs rs3
          · rw [es]; show d.2.1 + 1 ≤ 20; omega
          · rw [es]
            intro i2 hi2
            have hi2' : i2 < d.2.1 + 1 := hi2
            show okE3 (pr : Int) n w (if i2 = d.2.1 then d.2.2.2.1 else d.2.2.1 i2)
            by_cases e : i2 = d.2.1
            · rw [if_pos e]; exact oE
            · rw [if_neg e]; exact hO.2.2 i2 (by omega)
          · rw [es]; show k < d.2.1 + 1; omega
          · rw [es]; exact if_neg (show ¬ k = d.2.1 by omega)
        | succ q ih =>
          intro i J2 hq1 hi o2 em e10 hN hT g0 g1 g2
          have rA : vX10_rowOf m 21 (i : Int) = ((8 + 10 * 21 + i : Nat) : Int) := v10row (m := m) (a := 21) (c := i) (by omega) (by omega)
          have rB : vX10_rowOf m (d.2.1 : Int) (i : Int) = ((8 + 10 * d.2.1 + i : Nat) : Int) := v10row (m := m) (a := d.2.1) (c := i) (by omega) (by omega)
          refine bX10_steps_169 ⟨h.1, ?_⟩
          rw [em, fm 23 (by omega), fm 24 (by omega), hD2.1.1, hD2.1.2.1, w32_id (by omega), rA, rB, add1 (n := i) (by omega)]
          have row : ∃ L, okQ (pr : Int) n w L ∧ RowH J2 m (8 + 10 * 21 + i) L ∧ (i = 0 → L = d.2.2.2.1.1) ∧ (i = 1 → L = d.2.2.2.1.2.1) ∧ ∀ j, j < 8 → bitI st j = 1 → nb st j + 2 = i → L = d.2.2.2.1.2.2 j := by
            by_cases h0 : i = 0
            · exact ⟨_, oE.1, by rw [h0]; exact hN.1, fun _ => rfl, fun z => by omega, fun j _ _ z => by omega⟩
            · by_cases h1 : i = 1
              · exact ⟨_, oE.2.1, by rw [h1]; exact hN.2.1, fun z => by omega, fun _ => rfl, fun j _ _ z => by omega⟩
              · obtain ⟨j0, hj0, hb0, hn0⟩ := nb_inv (st := st) (k := 8) (r := i - 2) (by omega)
                refine ⟨_, oE.2.2 j0 hj0, ?_, fun z => by omega, fun z => by omega, fun j hj hb z => ?_⟩
                · have := hN.2.2 j0 hj0 hb0
                  rw [show 8 + 10 * 21 + i = 220 + nb st j0 by omega]; exact this
                · rw [nb_inj hb hb0 (by omega)]
          obtain ⟨L, okL, rL, l0, l1, l2⟩ := row
          refine br_f (by omega) (copies_spec h rL okL.2.2 (by omega) (by omega) (by omega) (fun J3 o3 h3 => ih (i + 1) J3 (by omega) (by omega) (o2.tr (o3.toW (by omega))) (by rw [o3.1 m (by omega) (by omega) (by omega)]; exact em) (by rw [o3.1 _ (by omega) (by omega) (by omega)]; exact e10) (hN.oR oE o3 (by omega)) (hT.oR hO.2.2 o3 (by omega)) (fun _ => ?_) (fun _ => ?_) (fun j hj hb z => ?_)))
          · by_cases h0 : i = 0
            · rw [h0] at h3
              have e := l0 h0
              rw [← e]; exact h3
            · exact (g0 (by omega)).oR oE.1.2.2 o3 (by omega)
          · by_cases h1 : i = 1
            · rw [h1] at h3
              have e := l1 h1
              rw [← e, show 9 + 10 * d.2.1 = 8 + 10 * d.2.1 + 1 by omega]; exact h3
            · exact (g1 (by omega)).oR oE.2.1.2.2 o3 (by omega)
          · by_cases h2 : nb st j + 2 = i
            · have e := l2 j hj hb h2
              rw [← e, show 10 + 10 * d.2.1 + nb st j = 8 + 10 * d.2.1 + i by omega]; exact h3
            · exact (g2 j hj hb (by omega)).oR (oE.2.2 j hj).2.2 o3 (by omega)
      exact loop (2 + nb st 8) 0 J rfl (Nat.zero_le _) offW.rf rfl rfl nowJ thJ (fun z => absurd z (Nat.not_lt_zero _)) (fun z => absurd z (Nat.not_lt_zero _)) (fun j _ _ z => absurd z (Nat.not_lt_zero _))
  have low := v10low h hw (show 218 < 300 by omega) oE.1.toR hD2.2.1.1 nE
  -- what is told
  have tell : ∀ (cm : Int), (cm = 0 ∨ cm = 1) → (cm = 1 ↔ ecL d.2.2.2.1.1 < ecL (d.2.2.1 k).1) → ¬ badD d k → LX10_steps_62 G m (k : Int) ((218 : Nat) : Int) ((8 + 10 * k : Nat) : Int) cm S I R Q := by
    intro cm hcm hcm2 nbad
    refine bX10_steps_62 ⟨h.1, ?_⟩
    rw [h.2.1.2.2.1.2.1, h.2.2.1.2.2.1.2.1, h.2.2.2.2.2.1.2.1, hD2.1.2.2, w32_id (x := 5 * (d.1 : Int)) (by omega), show Int.toNat (5 * (d.1 : Int)) = 5 * d.1 by omega]
    refine ⟨rfl, ⟨by omega, by omega⟩, fun J1 f1 => ?_⟩
    have rs1 := up_rs f1 (Or.inr rfl)
    have w1 : RfW J1 m n w := hw.oW (offW.u f1 (Or.inr rfl))
    have a1 := v10ec h w1 (show 8 + 10 * k < 300 by omega) oF.1.toR (hTk.rs rs1) nF
    have c1 : J1 m 25 = (d.1 : Int) := by rw [u_n f1 (by omega)]; exact hD2.1.2.2
    rw [c1, a1.2, w32_id (x := 5 * (d.1 : Int)) (by omega), w32_id (x := 5 * (d.1 : Int) + 1) (by omega), show Int.toNat (5 * (d.1 : Int) + 1) = 5 * d.1 + 1 by omega]
    refine ⟨a1.1, ⟨by omega, by omega⟩, fun J2 f2 => ?_⟩
    have rs2 := up_rs f2 (Or.inr rfl)
    have w2 : RfW J2 m n w := w1.oW (offW.u f2 (Or.inr rfl))
    have a2 := v10ec h w2 (show 218 < 300 by omega) oE.1.toR ((hD2.2.1.1.rs rs1).rs rs2) nE
    have c2 : J2 m 25 = (d.1 : Int) := by rw [u_n f2 (by omega)]; exact c1
    rw [c2, a2.2, w32_id (x := 5 * (d.1 : Int)) (by omega), w32_id (x := 5 * (d.1 : Int) + 2) (by omega), show Int.toNat (5 * (d.1 : Int) + 2) = 5 * d.1 + 2 by omega]
    refine ⟨a2.1, ⟨by omega, by omega⟩, fun J3 f3 => ?_⟩
    have rs3 := up_rs f3 (Or.inr rfl)
    have w3 : RfW J3 m n w := w2.oW (offW.u f3 (Or.inr rfl))
    have c3 : J3 m 25 = (d.1 : Int) := by rw [u_n f3 (by omega)]; exact c2
    rw [c3, w32_id (x := 5 * (d.1 : Int)) (by omega), w32_id (x := 5 * (d.1 : Int) + 3) (by omega)]
    have go : ∀ y : Int, y = (if ecL d.2.2.2.1.1 < ecL (d.2.2.1 k).1 then 1 else 0) → LX10_steps_132 G m (k : Int) ((218 : Nat) : Int) ((8 + 10 * k : Nat) : Int) cm y (5 * (d.1 : Int) + 3) (m + 10) S J3 R Q := by
      intro y hy
      refine bX10_steps_132 ⟨h.2.2.1.2.2.1.2.1, ?_⟩
      rw [h.2.2.2.2.2.1.2.1, show Int.toNat (5 * (d.1 : Int) + 3) = 5 * d.1 + 3 by omega]
      refine ⟨⟨by omega, by omega⟩, fun J4 f4 => ⟨h.1, ?_⟩⟩
      have rs4 := up_rs f4 (Or.inr rfl)
      have w4 : RfW J4 m n w := w3.oW (offW.u f4 (Or.inr rfl))
      have a4 := v10low h w4 (show 218 < 300 by omega) oE.1.toR ((((hD2.2.1.1.rs rs1).rs rs2).rs rs3).rs rs4) nE
      have c4 : J4 m 25 = (d.1 : Int) := by rw [u_n f4 (by omega)]; exact c3
      rw [c4, a4.2.1, h.2.1.2.2.1.2.1, h.2.2.1.2.2.1.2.1, h.2.2.2.2.2.1.2.1, w32_id (x := 5 * (d.1 : Int)) (by omega), w32_id (x := 5 * (d.1 : Int) + 4) (by omega), show Int.toNat (5 * (d.1 : Int) + 4) = 5 * d.1 + 4 by omega]
      refine ⟨a4.1, rfl, ⟨by omega, by omega⟩, fun J5 f5 => fun J6 f6 => ?_⟩
      have c5 : J5 m 25 = (d.1 : Int) := by rw [u_n f5 (by omega)]; exact c4
      rw [c5, add1 (by omega)] at f6
      have rs5 := up_rs f5 (Or.inr rfl)
      have rs6 := up_rs f6 (Or.inl rfl)
      refine main cm J6 hcm hcm2 nbad ⟨((((rs6.1.trans rs5.1).trans rs4.1).trans rs3.1).trans rs2.1).trans rs1.1, ((((rs6.2.1.trans rs5.2.1).trans rs4.2.1).trans rs3.2.1).trans rs2.2.1).trans rs1.2.1, ((((rs6.2.2.trans rs5.2.2).trans rs4.2.2).trans rs3.2.2).trans rs2.2.2).trans rs1.2.2⟩ ((((((offW.u f1 (Or.inr rfl)).tr (offW.u f2 (Or.inr rfl))).tr (offW.u f3 (Or.inr rfl))).tr (offW.u f4 (Or.inr rfl))).tr (offW.u f5 (Or.inr rfl))).tr (offW.u f6 (Or.inl ⟨rfl, by omega⟩))) (fun j hj => by rw [u_o f6 hj, u_n f5 (by omega), u_n f4 (by omega), u_n f3 (by omega), u_n f2 (by omega), u_n f1 (by omega)]) (u_s f6) (fun i hi j hj => ?_)
      rw [u_n f6 (by omega)]
      show J5 (m + 10) (5 * i + j) = (if i = d.1 then rowD k d.2.2.2.1 (d.2.2.1 k) else d.2.2.2.2 i) j
      by_cases e : i = d.1
      · rw [if_pos e, e]
        have h5 : j = 0 ∨ j = 1 ∨ j = 2 ∨ j = 3 ∨ j = 4 := by omega
        unfold rowD
        rcases h5 with rfl | rfl | rfl | rfl | rfl
        · rw [if_pos rfl, u_o f5 (by omega), u_o f4 (by omega), u_o f3 (by omega), u_o f2 (by omega)]; exact u_s f1
        · rw [if_neg (by decide), if_pos rfl, u_o f5 (by omega), u_o f4 (by omega), u_o f3 (by omega)]; exact u_s f2
        · rw [if_neg (by decide), if_neg (by decide), if_pos rfl, u_o f5 (by omega), u_o f4 (by omega)]; exact u_s f3
        · rw [if_neg (by decide), if_neg (by decide), if_neg (by decide), if_pos rfl, u_o f5 (by omega), u_s f4, hy]
        · rw [if_neg (by decide), if_neg (by decide), if_neg (by decide), if_neg (by decide)]; exact u_s f5
      · rw [if_neg e, u_o f5 (by omega), u_o f4 (by omega), u_o f3 (by omega), u_o f2 (by omega), u_o f1 (by omega)]
        exact hD2.2.2.2 i (by omega) j hj
    refine ⟨fun z => go 0 (by rw [if_neg (fun y => by have := hcm2.mpr y; omega)]), fun z => go 1 (by rw [if_pos (hcm2.mp (by omega))])⟩
  refine ⟨eT.1, eE.1, fun c2 => tell 0 (Or.inl rfl) ⟨fun z => absurd z (by decide), fun z => by omega⟩ (fun z => z.elim (fun y => by omega) (fun y => by omega)), fun c2 => ⟨fun c3 => tell 1 (Or.inr rfl) ⟨fun _ => by omega, fun _ => rfl⟩ (fun z => z.elim (fun y => by omega) (fun y => by omega)), fun c3 => hF0 I (Or.inl (Or.inr ⟨by omega, by omega⟩)) offW.rf⟩⟩
end RWK
