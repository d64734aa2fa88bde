/-! ===== X10: weak division, a step ===== -/
theorem mg_nil {p num sh : Int} {f : List Tm} (hp : 0 < p) (h : Can p f) : mg p num sh f [] = f := by
  rw [mg_canon hp h List.Pairwise.nil, List.map_nil, List.append_nil]; exact canon_id hp h
theorem mg_one {p by_ sh : Int} {q : List Tm} (hp : 2 ≤ p) (h : Can p q) (hb : 0 < by_ ∧ by_ < p) : mg p (p - by_) sh q (oneL (ngP p 1)) = nz (heapT p (heapsL p [] q) (262143 + sh) by_) := by
  have hs1 : Srt (oneL (ngP p 1)) := List.pairwise_singleton _ _
  rw [mg_canon (by omega) h hs1]
  have e : (p - by_) * ngP p 1 % p = by_ := by
    unfold ngP
    rw [if_neg (by decide), show (p - by_) * (p - 1) = by_ + p * (p - by_ - 1) by rw [Int.mul_sub, Int.mul_one, Int.mul_sub, Int.mul_sub, Int.mul_one, Int.sub_mul, Int.mul_comm by_ p]; omega, Int.add_mul_emod_self_left, Int.emod_eq_of_lt (by omega) hb.2]
  show nz (heapsL p [] (q ++ (oneL (ngP p 1)).map (tmT p (p - by_) sh))) = _
  rw [show (oneL (ngP p 1)).map (tmT p (p - by_) sh) = [(262143 + sh, by_)] by
    show [((262143 : Int) + sh, (p - by_) * ngP p 1 % p)] = _
    rw [e], heapsL_snoc]
theorem tms_r {p : Nat} {h t : List Tm} (pp : isP p) (hp : (p : Int) ≤ 32749) (hh : 0 < hdN h ∧ hdN h < (p : Int)) (ht : 0 < hdN t ∧ hdN t < (p : Int)) : 0 < tmsD (p : Int) h t ∧ tmsD (p : Int) h t < (p : Int) := by
  have hp2 : 2 ≤ p := pp.1
  unfold tmsD
  have r1 := Int.emod_nonneg (hdN h * inv (p : Int) (hdN t)) (show (p : Int) ≠ 0 by omega)
  have r2 := Int.emod_lt_of_pos (hdN h * inv (p : Int) (hdN t)) (show (0 : Int) < (p : Int) by omega)
  refine ⟨?_, r2⟩
  by_cases z : hdN h * inv (p : Int) (hdN t) % (p : Int) = 0
  · have d1 := emz.mp z
    have d2 := inv_ok pp (by omega) ht
    have d3 := Int.dvd_sub (dvm (hdN t) d1) (dvm (hdN h) d2)
    rw [show hdN t * (hdN h * inv (p : Int) (hdN t)) - hdN h * (inv (p : Int) (hdN t) * hdN t - 1) = hdN h by
      rw [Int.mul_sub, Int.mul_one, Int.mul_left_comm, Int.mul_comm (hdN t) (inv _ _)]; omega] at d3
    have := Int.le_of_dvd hh.1 d3
    omega
  · omega
theorem DvM.step {p st : Int} {d : Dv} {k : Nat} (h : DvM p st d) (hk : k < d.2.1) (hn : d.2.2.2.1.1 ≠ []) : DvM p st (stpD p d k) := by
  have g : ∀ i, i < (stpT d k).1 → (i < d.2.1 ∧ (stpT d k).2 i = d.2.2.1 i) ∨ (i = d.2.1 ∧ (stpT d k).2 i = d.2.2.2.1) := by
    intro i hi
    unfold stpT at hi ⊢
    by_cases c : ecL d.2.2.2.1.1 < ecL (d.2.2.1 k).1
    · rw [if_pos c] at hi ⊢
      show (i < d.2.1 ∧ upT d.2.2.1 d.2.1 d.2.2.2.1 i = _) ∨ (i = d.2.1 ∧ upT d.2.2.1 d.2.1 d.2.2.2.1 i = _)
      have hi2 : i < d.2.1 + 1 := hi
      by_cases e : i = d.2.1
      · exact Or.inr ⟨e, if_pos e⟩
      · exact Or.inl ⟨by omega, if_neg e⟩
    · rw [if_neg c] at hi ⊢
      exact Or.inl ⟨hi, rfl⟩
  have le : d.2.1 ≤ (stpT d k).1 := by
    unfold stpT
    by_cases c : ecL d.2.2.2.1.1 < ecL (d.2.2.1 k).1
    · rw [if_pos c]; exact Nat.le_succ _
    · rw [if_neg c]; exact Nat.le_refl _
  have h1 : nb st 8 ≤ d.2.1 := h.1
  refine ⟨?_, fun i hi => ?_, fun j hj hb => ⟨?_, fun i hi => ?_⟩, fun i hi => ?_⟩
  · show nb st 8 ≤ (stpT d k).1; omega
  · show ((stpT d k).2 i).1 ≠ []
    rcases g i hi with ⟨q, e⟩ | ⟨q, e⟩
    · rw [e]; exact h.2.1 i q
    · rw [e]; exact hn
  · show mg p _ _ (d.2.2.2.1.2.2 j) ((d.2.2.1 k).2.2 j) = []
    rw [(h.2.2.1 j hj hb).1, (h.2.2.1 j hj hb).2 k hk, mg]
  · show ((stpT d k).2 i).2.2 j = []
    rcases g i hi with ⟨q, e⟩ | ⟨q, e⟩
    · rw [e]; exact (h.2.2.1 j hj hb).2 i q
    · rw [e]; exact (h.2.2.1 j hj hb).1
  · show ((stpT d k).2 i).2.1 = [] ∧ ∃ k', k' < 8 ∧ bitI st k' = 1 ∧ nb st k' = i ∧ ∀ j, ((stpT d k).2 i).2.2 j = if j = k' then oneL (ngP p 1) else []
    rcases g i (by omega) with ⟨q, e⟩ | ⟨q, e⟩
    · rw [e]; exact h.2.2.2 i hi
    · omega
section RST
variable {G : Gl} {S : Sh} {R : MR} {m : Nat} {n : Int} {pr : Nat} {w : Nat → Int} {st : Int}
/-- what a step makes of h, u and the q -/
theorem step_main {I : MI} {Q : Sh → MI → MR → Int → Prop} {E F : Eq3} {T : Nat → Eq3} {c k : Nat} (h : RfS S R m) (hw : RfW I m n w) (hp : RfP I m (pr : Int)) (pp : isP pr) (h23 : I m 23 = (nb st 8 : Int)) (hN : NowH I m st E) (hT : ThH I m st T c) (oE : okE3 (pr : Int) n w E) (oT : ∀ i, i < c → okE3 (pr : Int) n w (T i)) (hc : c ≤ 20) (hk : k < c) (hTk : T k = F) (nE : E.1 ≠ []) (nF : F.1 ≠ []) (hd : dvs (hdM F.1) (hdM E.1))
    (hA : ∀ j, j < 8 → ¬ bitI st j = 1 → E.2.2 j = [] ∧ F.2.2 j = []) (hB : k < nb st 8 → F.2.1 = [] ∧ ∃ k', k' < 8 ∧ bitI st k' = 1 ∧ nb st k' = k ∧ ∀ j, F.2.2 j = if j = k' then oneL (ngP (pr : Int) 1) else [])
    (hF0 : ∀ I', ¬ fitE (nowD (pr : Int) E F) → offW I I' m → (∀ j, 20 ≤ j → j ≤ 25 → I' m j = I m j) → Q S I' R 0)
    (hS : ∀ I', fitE (nowD (pr : Int) E F) → offW I I' m → (∀ j, 20 ≤ j → j ≤ 25 → I' m j = I m j) → I' (m + 10) = I (m + 10) → NowH I' m st (nowD (pr : Int) E F) → ThH I' m st T c → Q S I' R 1) : LX10_steps_218 G m (k : Int) ((218 : Nat) : Int) ((8 + 10 * k : Nat) : Int) S I R Q := by
  have hp2 := hp.2
  have n8 := nbb_le st 8
  have oF : okE3 (pr : Int) n w F := hTk ▸ oT k hk
  have hTk1 := hT k hk
  rw [hTk] at hTk1
  have e1 := (hd_ok oE.1 nE).2
  have f1 := (hd_ok oF.1 nF).2
  have kE := (hd_ok oE.1 nE).1
  have kF := (hd_ok oF.1 nF).1
  have tr := tms_r pp hp2.2 e1 f1
  have dk := dvk kE kF hd
  have eng : ngP (pr : Int) (tmsD (pr : Int) E.1 F.1) = (pr : Int) - tmsD (pr : Int) E.1 F.1 := by unfold ngP; rw [if_neg (by omega)]
  have at0 : vX10_at m ((218 : Nat) : Int) 0 = ((60 * 218 + 0 : Nat) : Int) := v10at (r := 218) (j := 0) (by omega) (by omega)
  have at1 : vX10_at m ((8 + 10 * k : Nat) : Int) 0 = ((60 * (8 + 10 * k) + 0 : Nat) : Int) := v10at (r := 8 + 10 * k) (j := 0) (by omega) (by omega)
  have tE := hN.1.2 0 _ (hd_get nE)
  have tF := hTk1.1.2 0 _ (hd_get nF)
  have iv := inv_r (p := (pr : Int)) (x := hdN F.1) hp2.1
  refine bX10_steps_218 ⟨h.1, ?_⟩
  rw [h.2.1.1.2.2.1, h.2.2.1.1.2.2.1, h.2.2.2.1.2.2.1, at0, at1, show Int.toNat ((60 * 218 + 0 : Nat) : Int) = 60 * 218 + 0 by omega, show Int.toNat ((60 * (8 + 10 * k) + 0 : Nat) : Int) = 60 * (8 + 10 * k) + 0 by omega, tE.1, tF.1]
  refine ⟨rfl, ⟨by omega, by omega⟩, ⟨by omega, by omega⟩, turned_spec h hp ⟨by omega, f1.2⟩ ⟨h.1, ?_⟩⟩
  rw [hp.1, w64m ⟨by omega, e1.2⟩ iv hp2]
  refine ⟨by omega, copies_spec (t := 292) h hN.1 oE.1.2.2 (by omega) (by omega) (by omega) (fun I1 o1 h292 => ⟨h.1, ?_⟩)⟩
  have eby : hdN E.1 * inv (pr : Int) (hdN F.1) % (pr : Int) = tmsD (pr : Int) E.1 F.1 := rfl
  rw [eby]
  have hN1 := hN.oR oE o1 (Or.inr (by omega))
  have hT1 := hT.oR oT o1 (by omega)
  have hTk2 := hT1 k hk
  rw [hTk] at hTk2
  have w1 := o1.toW (by omega)
  have f20 : ∀ j, 20 ≤ j → j ≤ 25 → I1 m j = I m j := fun j _ _ => by rw [o1.1 m (by omega) (by omega) (by omega)]
  refine lessens_spec h (hw.oW w1) (hp.oW w1) hN1.1 hTk2.1 h292 hTk2.1 (by omega) (by omega) (by omega) oE.1 oF.1 oE.1 oF.1 nE nF hd tr (fun I3 ft ⟨I2, o2, o3⟩ h290 => ?_) (fun I2 nf o2 => br_f (fun z => z rfl) (hF0 I2 (fun z => nf (by have := z.1; unfold nowD mixE at this; rw [eng] at this; exact this)) (w1.tr o2.toW) (fun j a b => by rw [o2.2 j (by omega)]; exact f20 j a b)))
  have w3 := (w1.tr o2.toW).tr (o3.toW (by omega))
  have hN3 := (hN1.oH o2).oR oE o3 (Or.inr (by omega))
  have hT3 := (hT1.oH o2).oR oT o3 (by omega)
  have h292_3 := (h292.oH o2).oR oE.1.2.2 o3 (by omega)
  have f20' : ∀ j, 20 ≤ j → j ≤ 25 → I3 m j = I m j := fun j a b => by rw [o3.1 m (by omega) (by omega) (by omega), o2.2 j (by omega)]; exact f20 j a b
  have e10 : I3 (m + 10) = I (m + 10) := by rw [o3.1 _ (by omega) (by omega) (by omega), o2.1 _ (by omega) (by omega) (by omega), o1.1 _ (by omega) (by omega) (by omega)]
  have okNew1 : (mg (pr : Int) ((pr : Int) - tmsD (pr : Int) E.1 F.1) (hdM E.1 - hdM F.1) E.1 F.1).length ≤ 60 := ft.1
  refine br_t (by decide) ⟨h.1, copies_spec (f := 290) (t := 218) h h290 okNew1 (by omega) (by omega) (by omega) (fun I4 o4 h218 => ⟨h.1, ?_⟩)⟩
  have w4 := w3.tr (o4.toW (by omega))
  have hT4 := hT3.oR oT o4 (by omega)
  have h292_4 := h292_3.oR oE.1.2.2 o4 (by omega)
  have hu4 := hN3.2.1.oR oE.2.1.2.2 o4 (by omega)
  have hq4 : ∀ j, j < 8 → bitI st j = 1 → RowH I4 m (220 + nb st j) (E.2.2 j) := fun j hj hb => (hN3.2.2 j hj hb).oR (oE.2.2 j hj).2.2 o4 (by omega)
  have f20'' : ∀ j, 20 ≤ j → j ≤ 25 → I4 m j = I m j := fun j a b => by rw [o4.1 m (by omega) (by omega) (by omega)]; exact f20' j a b
  have e10' : I4 (m + 10) = I (m + 10) := by rw [o4.1 _ (by omega) (by omega) (by omega)]; exact e10
  have hw4 := hw.oW w4
  have hp4 := hp.oW w4
  have hTk4 := hT4 k hk
  rw [hTk] at hTk4
  rw [f20'' 23 (by omega) (by omega), h23]
  have en : nowD (pr : Int) E F = (mg (pr : Int) ((pr : Int) - tmsD (pr : Int) E.1 F.1) (hdM E.1 - hdM F.1) E.1 F.1, mg (pr : Int) ((pr : Int) - tmsD (pr : Int) E.1 F.1) (hdM E.1 - hdM F.1) E.2.1 F.2.1, fun j => mg (pr : Int) ((pr : Int) - tmsD (pr : Int) E.1 F.1) (hdM E.1 - hdM F.1) (E.2.2 j) (F.2.2 j)) := by
    unfold nowD mixE; rw [eng]
  rw [en] at hF0 hS
  refine ⟨fun ck => ?_, fun ck => ?_⟩
  · -- one that came
    have hkn : nb st 8 ≤ k := by omega
    have loop : ∀ (q i : Nat) (J : MI), 2 + nb st 8 - i = q → 1 ≤ i → i ≤ 2 + nb st 8 → offW I J m → (∀ j, 20 ≤ j → j ≤ 25 → J m j = I m j) → J (m + 10) = I (m + 10) → RowH J m 218 (mg (pr : Int) ((pr : Int) - tmsD (pr : Int) E.1 F.1) (hdM E.1 - hdM F.1) E.1 F.1) → RowH J m 292 E.1 → ThH J m st T c →
        ((i ≤ 1 → RowH J m 219 E.2.1) ∧ (1 < i → fits 60 (mg (pr : Int) ((pr : Int) - tmsD (pr : Int) E.1 F.1) (hdM E.1 - hdM F.1) E.2.1 F.2.1) ∧ RowH J m 219 (mg (pr : Int) ((pr : Int) - tmsD (pr : Int) E.1 F.1) (hdM E.1 - hdM F.1) E.2.1 F.2.1))) →
        (∀ j, j < 8 → bitI st j = 1 → (i ≤ nb st j + 2 → RowH J m (220 + nb st j) (E.2.2 j)) ∧ (nb st j + 2 < i → fits 60 (mg (pr : Int) ((pr : Int) - tmsD (pr : Int) E.1 F.1) (hdM E.1 - hdM F.1) (E.2.2 j) (F.2.2 j)) ∧ RowH J m (220 + nb st j) (mg (pr : Int) ((pr : Int) - tmsD (pr : Int) E.1 F.1) (hdM E.1 - hdM F.1) (E.2.2 j) (F.2.2 j)))) →
        CI G MX10_carries [vR m, vI (k : Int), vI (tmsD (pr : Int) E.1 F.1), vI ((8 + 10 * k : Nat) : Int)] S J R (fun S313 I313 R313 x313_ => ((x313_ = 0 ∨ x313_ = 1) ∧ Q S313 I313 R313 x313_)) ∨ True → LX10_carries_3 G m (k : Int) (tmsD (pr : Int) E.1 F.1) ((8 + 10 * k : Nat) : Int) (i : Int) S J R (fun S313 I313 R313 x313_ => ((x313_ = 0 ∨ x313_ = 1) ∧ Q S313 I313 R313 x313_)) := by
      intro q
      induction q with
      | zero =>
        intro i J hq1 hi1 hi oJ fJ eJ r218 r292 rT ru rq _
        refine bX10_carries_3 ⟨h.1, ?_⟩
        rw [fJ 23 (by omega) (by omega), h23, w32_id (by omega)]
        refine br_t (by omega) ⟨Or.inr rfl, hS J ⟨ft, (ru.2 (by omega)).1, fun j hj => ?_⟩ oJ fJ eJ ⟨r218, (ru.2 (by omega)).2, fun j hj hb => ((rq j hj hb).2 (by have := nb_lt (st := st) (i := j) (j := 8) hj hb; omega)).2⟩ rT⟩
        by_cases hb : bitI st j = 1
        · exact ((rq j hj hb).2 (by have := nb_lt (st := st) (i := j) (j := 8) hj hb; omega)).1
        · show fits 60 (mg _ _ _ (E.2.2 j) (F.2.2 j))
          rw [(hA j hj hb).1, (hA j hj hb).2, mg]
          exact ⟨Nat.zero_le _, fun t ht => absurd ht List.not_mem_nil⟩
      | succ q ih =>
        intro i J hq1 hi1 hi oJ fJ eJ r218 r292 rT ru rq _
        have r1 := v10row (m := m) (a := 21) (c := i) (by omega) (by omega)
        have r2 := v10row (m := m) (a := k) (c := i) (by omega) (by omega)
        have r1' : vX10_rowOf m 21 (i : Int) = ((8 + 10 * 21 + i : Nat) : Int) := r1
        have rTk := rT k hk
        rw [hTk] at rTk
        refine bX10_carries_3 ⟨h.1, ?_⟩
        rw [fJ 23 (by omega) (by omega), h23, w32_id (by omega), r1', r2, add1 (n := i) (by omega)]
        -- the rows
        have rows : ∃ A C, okQ (pr : Int) n w A ∧ okQ (pr : Int) n w C ∧ RowH J m (8 + 10 * 21 + i) A ∧ RowH J m (8 + 10 * k + i) C ∧ ((∀ z : fits 60 (mg (pr : Int) ((pr : Int) - tmsD (pr : Int) E.1 F.1) (hdM E.1 - hdM F.1) A C), ∀ J2 J3 J4, offH J J2 m → offRow J2 J3 m 290 → offRow J3 J4 m (8 + 10 * 21 + i) → RowH J4 m (8 + 10 * 21 + i) (mg (pr : Int) ((pr : Int) - tmsD (pr : Int) E.1 F.1) (hdM E.1 - hdM F.1) A C) → LX10_carries_3 G m (k : Int) (tmsD (pr : Int) E.1 F.1) ((8 + 10 * k : Nat) : Int) ((i + 1 : Nat) : Int) S J4 R (fun S313 I313 R313 x313_ => ((x313_ = 0 ∨ x313_ = 1) ∧ Q S313 I313 R313 x313_))) ∧ (¬ fits 60 (mg (pr : Int) ((pr : Int) - tmsD (pr : Int) E.1 F.1) (hdM E.1 - hdM F.1) A C) → ¬ fitE (mg (pr : Int) ((pr : Int) - tmsD (pr : Int) E.1 F.1) (hdM E.1 - hdM F.1) E.1 F.1, mg (pr : Int) ((pr : Int) - tmsD (pr : Int) E.1 F.1) (hdM E.1 - hdM F.1) E.2.1 F.2.1, fun j => mg (pr : Int) ((pr : Int) - tmsD (pr : Int) E.1 F.1) (hdM E.1 - hdM F.1) (E.2.2 j) (F.2.2 j)))) := by
          have common : ∀ J2 J3 J4, offH J J2 m → offRow J2 J3 m 290 → offRow J3 J4 m (8 + 10 * 21 + i) → offW I J4 m ∧ (∀ j, 20 ≤ j → j ≤ 25 → J4 m j = I m j) ∧ J4 (m + 10) = I (m + 10) ∧ RowH J4 m 218 (mg (pr : Int) ((pr : Int) - tmsD (pr : Int) E.1 F.1) (hdM E.1 - hdM F.1) E.1 F.1) ∧ RowH J4 m 292 E.1 ∧ ThH J4 m st T c := by
            intro J2 J3 J4 a1 a2 a3
            refine ⟨((oJ.tr a1.toW).tr (a2.toW (by omega))).tr (a3.toW (by omega)), fun j b1 b2 => by rw [a3.1 m (by omega) (by omega) (by omega), a2.1 m (by omega) (by omega) (by omega), a1.2 j (by omega)]; exact fJ j b1 b2, by rw [a3.1 _ (by omega) (by omega) (by omega), a2.1 _ (by omega) (by omega) (by omega), a1.1 _ (by omega) (by omega) (by omega)]; exact eJ, ((r218.oH a1).oR okNew1 a2 (by omega)).oR okNew1 a3 (by omega), ((r292.oH a1).oR oE.1.2.2 a2 (by omega)).oR oE.1.2.2 a3 (by omega), ((rT.oH a1).oR oT a2 (by omega)).oR oT a3 (by omega)⟩
          by_cases hi2 : i = 1
          · refine ⟨E.2.1, F.2.1, oE.2.1, oF.2.1, by rw [hi2]; exact ru.1 (by omega), by rw [hi2, show 8 + 10 * k + 1 = 9 + 10 * k by omega]; exact (rTk.2 hkn).1, fun z J2 J3 J4 a1 a2 a3 a4 => ?_, fun z y => z y.2.1⟩
            have cc := common J2 J3 J4 a1 a2 a3
            refine ih (i + 1) J4 (by omega) (by omega) (by omega) cc.1 cc.2.1 cc.2.2.1 cc.2.2.2.1 cc.2.2.2.2.1 cc.2.2.2.2.2 ⟨fun y => by omega, fun _ => ⟨z, by rw [hi2] at a4; exact a4⟩⟩ (fun j hj hb => ⟨fun _ => ?_, fun y => by omega⟩) (Or.inr trivial)
            exact (((((rq j hj hb).1 (by omega)).oH a1).oR (oE.2.2 j hj).2.2 a2 (by have := nbb_le st j; omega)).oR (oE.2.2 j hj).2.2 a3 (by omega))
          · obtain ⟨j0, hj0, hb0, hnb0⟩ := nb_inv (st := st) (k := 8) (r := i - 2) (by omega)
            refine ⟨E.2.2 j0, F.2.2 j0, oE.2.2 j0 hj0, oF.2.2 j0 hj0, ?_, ?_, fun z J2 J3 J4 a1 a2 a3 a4 => ?_, fun z y => z (y.2.2 j0 hj0)⟩
            · have := (rq j0 hj0 hb0).1 (by omega)
              rw [show 8 + 10 * 21 + i = 220 + nb st j0 by omega]; exact this
            · have := (rTk.2 hkn).2 j0 hj0 hb0
              rw [show 8 + 10 * k + i = 10 + 10 * k + nb st j0 by omega]; exact this
            · have cc := common J2 J3 J4 a1 a2 a3
              refine ih (i + 1) J4 (by omega) (by omega) (by omega) cc.1 cc.2.1 cc.2.2.1 cc.2.2.2.1 cc.2.2.2.2.1 cc.2.2.2.2.2 ⟨fun y => by omega, fun _ => ?_⟩ (fun j hj hb => ⟨fun y => ?_, fun y => ?_⟩) (Or.inr trivial)
              · have r := ru.2 (by omega)
                exact ⟨r.1, ((r.2.oH a1).oR r.1.1 a2 (by omega)).oR r.1.1 a3 (by omega)⟩
              · exact (((((rq j hj hb).1 (by omega)).oH a1).oR (oE.2.2 j hj).2.2 a2 (by have := nbb_le st j; omega)).oR (oE.2.2 j hj).2.2 a3 (by omega))
              · by_cases e : j = j0
                · rw [e]
                  refine ⟨z, ?_⟩
                  rw [show 8 + 10 * 21 + i = 220 + nb st j0 by omega] at a4; exact a4
                · have ne : nb st j ≠ nb st j0 := fun q2 => e (nb_inj hb hb0 q2)
                  have r := (rq j hj hb).2 (by omega)
                  exact ⟨r.1, ((r.2.oH a1).oR r.1.1 a2 (by have := nbb_le st j; omega)).oR r.1.1 a3 (by omega)⟩
        obtain ⟨A, C, oA, oC, hA1, hC1, good, bad⟩ := rows
        refine br_f (by omega) (lessens_spec h (hw.oW oJ) (hp.oW oJ) hA1 hC1 r292 rTk.1 (by omega) (by omega) (by omega) oA oC oE.1 oF.1 nE nF hd tr (fun J3 ft2 ⟨J2, a1, a2⟩ h290' => br_t (by decide) ⟨h.1, copies_spec (f := 290) h h290' ft2.1 (by omega) (by omega) (by omega) (fun J4 a3 a4 => good ft2 J2 J3 J4 a1 a2 a3 a4)⟩) (fun J2 nf a1 => br_f (fun z => z rfl) ⟨Or.inl rfl, hF0 J2 (bad nf) (oJ.tr a1.toW) (fun j b1 b2 => by rw [a1.2 j (by omega)]; exact fJ j b1 b2)⟩))
    exact bX10_carries (loop (1 + nb st 8) 1 I4 (by omega) (by omega) (by omega) w4 f20'' e10' h218 h292_4 hT4 ⟨fun _ => hu4, fun y => by omega⟩ (fun j hj hb => ⟨fun _ => hq4 j hj hb, fun y => by omega⟩) (Or.inr trivial))
  · -- one of the set
    obtain ⟨hu0, jk, hjk, hbk, hnk, hqk⟩ := hB (by omega)
    have euu : mg (pr : Int) ((pr : Int) - tmsD (pr : Int) E.1 F.1) (hdM E.1 - hdM F.1) E.2.1 F.2.1 = E.2.1 := by rw [hu0]; exact mg_nil (by omega) oE.2.1.1
    have eqn : ∀ j, j < 8 → j ≠ jk → mg (pr : Int) ((pr : Int) - tmsD (pr : Int) E.1 F.1) (hdM E.1 - hdM F.1) (E.2.2 j) (F.2.2 j) = E.2.2 j := fun j hj hne => by
      rw [hqk j, if_neg hne]; exact mg_nil (by omega) (oE.2.2 j hj).1
    have eqk : mg (pr : Int) ((pr : Int) - tmsD (pr : Int) E.1 F.1) (hdM E.1 - hdM F.1) (E.2.2 jk) (F.2.2 jk) = nz (heapT (pr : Int) (heapsL (pr : Int) [] (E.2.2 jk)) (262143 + (hdM E.1 - hdM F.1)) (tmsD (pr : Int) E.1 F.1)) := by
      rw [hqk jk, if_pos rfl]; exact mg_one (by omega) (oE.2.2 jk hjk).1 tr
    have rw1 : vX10_rowOf m 21 (w32 (2 + (k : Int))) = ((220 + nb st jk : Nat) : Int) := by
      have := v10row (m := m) (a := 21) (c := 2 + k) (by omega) (by omega)
      rw [w32_id (by omega), show 2 + (k : Int) = ((2 + k : Nat) : Int) by omega]
      refine this.trans ?_
      congr 1; omega
    refine bX10_grows ⟨h.1, fun I5 e5 => ?_⟩
    rw [rw1]
    have o5 : offH I4 I5 m := offH.u e5 (Or.inr (Or.inr ⟨rfl, rfl⟩))
    have nbj := nbb_le st jk
    refine heaps1_spec h (hw4.oH o5) (hp4.oH o5) (u_s e5) ((hq4 jk hjk hbk).oH o5) (by omega) (oE.2.2 jk hjk).toR (red0_of (oE.2.2 jk hjk).1.2) (fun I6 o6 g6 gI6 => ⟨h.1, ?_⟩)
    have o56 := o5.tr o6
    have q1 := p10pow0 (S := S) (R := R) (m := m) (r := 292) h (by omega)
    have q2 := p10pow0 (S := S) (R := R) (m := m) (r := 8 + 10 * k) h (by omega)
    have p1 := (h292_4.oH o56).pow0 h (show 292 < 300 by omega) nE
    have p2 := (hTk4.1.oH o56).pow0 h (show 8 + 10 * k < 300 by omega) nF
    have p1' : vX10_power I6 R m 292 0 0 = exx (hdM E.1) ∧ vX10_power I6 R m 292 0 1 = exy (hdM E.1) ∧ vX10_power I6 R m 292 0 2 = exz (hdM E.1) := p1
    have rE := kE.r
    have rF := kF.r
    unfold dvs at hd
    refine ⟨q1.1, q2.1, q1.2.1, q2.2.1, q1.2.2, q2.2.2, ?_⟩
    rw [p1'.1, p1'.2.1, p1'.2.2, p2.1, p2.2.1, p2.2.2, w32_id (x := exx (hdM E.1) - exx (hdM F.1)) (by omega), w32_id (x := exy (hdM E.1) - exy (hdM F.1)) (by omega), w32_id (x := exz (hdM E.1) - exz (hdM F.1)) (by omega), ← dk.2.1, ← dk.2.2.1, ← dk.2.2.2]
    have lq := (oE.2.2 jk hjk).2.2
    have hlen := heapsL_len (pr : Int) (E.2.2 jk) []
    have e0 : ([] : List Tm).length = 0 := rfl
    have ekk : hdM E.1 - hdM F.1 + 262143 = 262143 + (hdM E.1 - hdM F.1) := by omega
    refine heaps_spec h (hw4.oH o56) (hp4.oH o56) g6 gI6.1 gI6.2.1 gI6.2.2 (by omega) ⟨dk.1.1, dk.1.2.1⟩ ⟨by omega, tr.2⟩ (fun I7 o7 g7 => ⟨h.1, ?_⟩)
    rw [ekk] at g7
    have o57 := o56.tr o7
    have hlen7 := heapT_len (pr : Int) (262143 + (hdM E.1 - hdM F.1)) (tmsD (pr : Int) E.1 F.1) (heapsL (pr : Int) [] (E.2.2 jk))
    have w7 := w4.tr o57.toW
    have f7 : ∀ j, 20 ≤ j → j ≤ 25 → I7 m j = I m j := fun j a b => by rw [o57.2 j (by omega)]; exact f20'' j a b
    refine takes_spec (r := 290) h g7 (by omega) (by omega) (fun I8 ft8 o8 h8 => br_t (by decide) ⟨h.1, ?_⟩) (fun nf => br_f (fun z => z rfl) ⟨Or.inl rfl, hF0 I7 (fun z => nf (by have := z.2.2 jk hjk; show fits 60 _; rw [← eqk]; exact this)) w7 f7⟩)
    rw [← eqk] at h8 ft8
    refine copies_spec (f := 290) (t := 220 + nb st jk) h h8 ft8.1 (by omega) (by omega) (by omega) (fun I9 o9 h9 => ⟨Or.inr rfl, hS I9 ⟨ft, by rw [show ((mg (pr : Int) ((pr : Int) - tmsD (pr : Int) E.1 F.1) (hdM E.1 - hdM F.1) E.1 F.1, mg (pr : Int) ((pr : Int) - tmsD (pr : Int) E.1 F.1) (hdM E.1 - hdM F.1) E.2.1 F.2.1, fun j => mg (pr : Int) ((pr : Int) - tmsD (pr : Int) E.1 F.1) (hdM E.1 - hdM F.1) (E.2.2 j) (F.2.2 j)) : Eq3).2.1 = E.2.1 from euu]; exact ⟨oE.2.1.2.2, fun t ht => (oE.2.1.2.1 t ht).2.1⟩, fun j hj => ?_⟩ ((w7.tr (o8.toW (by omega))).tr (o9.toW (by omega))) (fun j a b => by rw [o9.1 m (by omega) (by omega) (by omega), o8.1 m (by omega) (by omega) (by omega)]; exact f7 j a b) (by rw [o9.1 _ (by omega) (by omega) (by omega), o8.1 _ (by omega) (by omega) (by omega), o57.1 _ (by omega) (by omega) (by omega)]; exact e10') ⟨?_, ?_, fun j hj hb => ?_⟩ (((hT4.oH o57).oR oT o8 (by omega)).oR oT o9 (by omega))⟩)
    · show fits 60 (mg _ _ _ (E.2.2 j) (F.2.2 j))
      by_cases e : j = jk
      · rw [e]; exact ft8
      · rw [eqn j hj e]; exact ⟨(oE.2.2 j hj).2.2, fun t ht => ((oE.2.2 j hj).2.1 t ht).2.1⟩
    · exact ((h218.oH o57).oR okNew1 o8 (by omega)).oR okNew1 o9 (by omega)
    · show RowH I9 m 219 (mg _ _ _ E.2.1 F.2.1)
      rw [euu]
      exact ((hu4.oH o57).oR oE.2.1.2.2 o8 (by omega)).oR oE.2.1.2.2 o9 (by omega)
    · show RowH I9 m (220 + nb st j) (mg _ _ _ (E.2.2 j) (F.2.2 j))
      by_cases e : j = jk
      · rw [e]; exact h9
      · rw [eqn j hj e]
        have ne : nb st j ≠ nb st jk := fun q2 => e (nb_inj hb hbk q2)
        exact (((hq4 j hj hb).oH o57).oR (oE.2.2 j hj).2.2 o8 (by have := nbb_le st j; omega)).oR (oE.2.2 j hj).2.2 o9 (by omega)
end RST
