/-! ===== both sides together ===== -/
section LW
variable {S S' : Sh} {I I' I2 : MI} {R R' : MR} {s s' s2 : Ms} {m i : Nat}
theorem RfS.sm (h : RfS S R m) (e : sam m (m + 14) S I R S' I' R') : RfS S' R' m := by
  unfold RfS
  rw [(e m (by omega) (by omega)).1, (e m (by omega) (by omega)).2.2.2, (e (m + 1) (by omega) (by omega)).1, (e (m + 2) (by omega) (by omega)).1, (e (m + 3) (by omega) (by omega)).1, (e (m + 4) (by omega) (by omega)).1, (e (m + 5) (by omega) (by omega)).1, (e (m + 6) (by omega) (by omega)).1, (e (m + 7) (by omega) (by omega)).1, (e (m + 8) (by omega) (by omega)).1, (e (m + 9) (by omega) (by omega)).1, (e (m + 10) (by omega) (by omega)).1, (e (m + 11) (by omega) (by omega)).1, (e (m + 12) (by omega) (by omega)).1, (e (m + 13) (by omega) (by omega)).1, (e (m + 14) (by omega) (by omega)).1,
    (e (m + 1) (by omega) (by omega)).2.1, (e (m + 2) (by omega) (by omega)).2.1, (e (m + 3) (by omega) (by omega)).2.1, (e (m + 4) (by omega) (by omega)).2.1, (e (m + 5) (by omega) (by omega)).2.1, (e (m + 6) (by omega) (by omega)).2.1, (e (m + 7) (by omega) (by omega)).2.1, (e (m + 8) (by omega) (by omega)).2.1, (e (m + 9) (by omega) (by omega)).2.1, (e (m + 10) (by omega) (by omega)).2.1, (e (m + 11) (by omega) (by omega)).2.1, (e (m + 12) (by omega) (by omega)).2.1, (e (m + 13) (by omega) (by omega)).2.1, (e (m + 14) (by omega) (by omega)).2.1]
  exact h
theorem RowH.same {r : Nat} {L : List Tm} (h : RowH I m r L) (e : ∀ b, m ≤ b → b ≤ m + 14 → I' b = I b) : RowH I' m r L := by
  unfold RowH
  rw [e (m + 2) (by omega) (by omega), e (m + 3) (by omega) (by omega), e (m + 4) (by omega) (by omega)]; exact h
theorem DvH.same {st : Int} {d : Dv} (h : DvH I m st d) (e : ∀ b, m ≤ b → b ≤ m + 14 → I' b = I b) : DvH I' m st d := by
  refine ⟨by rw [e m (by omega) (by omega)]; exact h.1, ⟨h.2.1.1.same e, h.2.1.2.1.same e, fun j hj hb => (h.2.1.2.2 j hj hb).same e⟩, fun i hi => ⟨(h.2.2.1 i hi).1.same e, fun q => ⟨((h.2.2.1 i hi).2 q).1.same e, fun j hj hb => (((h.2.2.1 i hi).2 q).2 j hj hb).same e⟩⟩, fun i hi j hj => by rw [e (m + 10) (by omega) (by omega)]; exact h.2.2.2 i hi j hj⟩
theorem RefD.same {dv : Option (Int × Nat × Dv)} (h : RefD I m dv) (e : ∀ b, m ≤ b → b ≤ m + 14 → I' b = I b) : RefD I' m dv := by
  cases dv with
  | none => show I' m 20 = 0; rw [e m (by omega) (by omega)]; exact h
  | some x =>
    obtain ⟨st, a, d⟩ := x
    have h2 : I m 20 = 1 ∧ I m 21 = st ∧ I m 22 = (a : Int) ∧ DvH I m st d := h
    show I' m 20 = 1 ∧ I' m 21 = st ∧ I' m 22 = (a : Int) ∧ DvH I' m st d
    rw [e m (by omega) (by omega)]
    exact ⟨h2.1, h2.2.1, h2.2.2.1, h2.2.2.2.same e⟩
theorem RefV.same (h : RefV I m s) (e : ∀ b, m ≤ b → b ≤ m + 14 → I' b = I b) : RefV I' m s := by
  have e0 := e m (by omega) (by omega)
  refine ⟨?_, ?_, fun k hk => (h.2.2.1 k hk).same e, ?_, ?_, ?_, h.2.2.2.2.2.2.same e⟩
  · have := h.1
    unfold RfW at this ⊢
    rw [e0, e (m + 1) (by omega) (by omega)]; exact this
  · have := h.2.1
    unfold RfP at this ⊢
    rw [e0]; exact this
  · rw [e0, e (m + 7) (by omega) (by omega)]; exact h.2.2.2.1
  · rw [e0]; exact h.2.2.2.2.1
  · have := h.2.2.2.2.2.1
    unfold Arr at this ⊢
    rw [e0, e (m + 9) (by omega) (by omega)]; exact this
theorem Cls.off (h : Cls S I R s) (hs : MsOK s) (o : offX I I' 1310 1324) : Cls S I' R s := by
  obtain ⟨P, sp, pd, ps, nu, nw, af, hS, hV⟩ := h
  have nr := hS.nr
  exact ⟨P, sp, pd, ps, nu, nw, af, hS, hV.sm hS hs (fun b _ _ => ⟨rfl, rfl, o b (by omega), rfl⟩) (fun b _ _ => ⟨rfl, rfl, o b (by omega), rfl⟩)⟩
def LawI (i : Nat) (S : Sh) (I : MI) (R : MR) (s : Ms) : Prop := Cls S I R s ∧ MsOK s ∧ RfS S R 1310 ∧ RefV I 1310 s ∧ (1325 ≤ sN S ∧ sN S ≤ 1325 + i) ∧ sU S ≤ 400000 + i
theorem LawI.mid (h : LawI i S I R s) (f : frC S I R S' I' R') : RfS S' R' 1310 ∧ RefV I' 1310 s := by
  have hn := h.2.2.2.2.1
  have e : sam 1310 1324 S I R S' I' R' := fun b h1 h2 => f.2.2.2 b h1 (by omega)
  exact ⟨h.2.2.1.sm e, h.2.2.2.1.same (fun b h1 h2 => (e b h1 h2).2.2.1)⟩
theorem LawI.nx (h : LawI i S I R s) (f : frC S I R S' I' R') (hc : Cls S' I' R' s') (hs : MsOK s') (o : offX I' I2 1310 1324) (hv : RefV I2 1310 s') : LawI (i + 1) S' I2 R' s' := by
  have hn := h.2.2.2.2.1
  have hu := h.2.2.2.2.2
  have f1 := f.1
  have f2 := f.2.1
  have f3 := f.2.2.1
  exact ⟨hc.off hs o, hs, (h.mid f).1, hv, by omega, by omega⟩
end LW
theorem law_case {G : Gl} {S : Sh} {I : MI} {R : MR} {s : Ms} {i : Nat} {μ9 μ10 : MB} {as9 as10 : List PV} {A : Int → Ms → Prop} {Q : PQ} {K : Sh → MI → MR → Prop} (hi : LawI i S I R s)
    (hcls : ∀ Q1 : Sh → MI → MR → Int → Prop, (∀ S' I' R' x s', Cls S' I' R' s' → frC S I R S' I' R' → (∀ y s'', A y s'' → y = x ∧ s'' = s') → MsOK s' → Q1 S' I' R' x) → CI G μ9 as9 S I R Q1)
    (href : ∀ (S' : Sh) (I' : MI) (R' : MR) (Q2 : Sh → MI → MR → Int → Prop), RfS S' R' 1310 → RefV I' 1310 s → (∀ I'' y s'', offX I' I'' 1310 (1310 + 14) → RefV I'' 1310 s'' → A y s'' → Q2 S' I'' R' y) → CI G μ10 as10 S' I' R' Q2)
    (hk : ∀ S' I' R' s', LawI (i + 1) S' I' R' s' → K S' I' R') :
    CI G μ9 as9 S I R (fun S1 I1 R1 x => sT S1 1310 = 10 ∧ CI G μ10 as10 S1 I1 R1 (fun S2 I2 R2 y => (x = y → K S2 I2 R2) ∧ (¬ (x = y) → Q S2 I2 R2 (vI 0)))) := by
  refine hcls _ (fun S' I' R' x s' hc hf hu hs' => ?_)
  have mid := hi.mid hf
  refine ⟨mid.1.1, href S' I' R' _ mid.1 mid.2 (fun I'' y s'' ho hv hA => ?_)⟩
  obtain ⟨e1, e2⟩ := hu y s'' hA
  rw [e2] at hv
  exact ⟨fun _ => hk _ _ _ _ (hi.nx hf hc hs' ho hv), fun n => absurd e1.symm n⟩
theorem law_pure {G : Gl} {S : Sh} {I : MI} {R : MR} {s : Ms} {i : Nat} {μ10 : MB} {as10 : List PV} {A : Int → Prop} {v : Int} {Q : PQ} {K : Sh → MI → MR → Prop} (hi : LawI i S I R s) (hu : ∀ y, A y → y = v)
    (href : ∀ (Q2 : Sh → MI → MR → Int → Prop), (∀ I'' y, offS I I'' 1310 → A y → Q2 S I'' R y) → CI G μ10 as10 S I R Q2)
    (hk : ∀ S' I' R' s', LawI (i + 1) S' I' R' s' → K S' I' R') :
    sT S 1310 = 10 ∧ CI G μ10 as10 S I R (fun S2 I2 R2 y => (v = y → K S2 I2 R2) ∧ (¬ (v = y) → Q S2 I2 R2 (vI 0))) := by
  refine ⟨hi.2.2.1.1, href _ (fun I'' y ho hA => ⟨fun _ => hk _ _ _ s (hi.nx frC.rf hi.1 hi.2.1 ho.X (hi.2.2.2.1.oS hi.2.1 ho)), fun n => absurd (hu y hA).symm n⟩)⟩
/-! ===== what a call answers is determined, and what it leaves keeps the bounds ===== -/
theorem det2 {c : Prop} {e e' x y : Int} {t t' s' s'' : Ms} (h1 : (c → x = e ∧ s' = t) ∧ (¬ c → x = e' ∧ s' = t')) (h2 : (c → y = e ∧ s'' = t) ∧ (¬ c → y = e' ∧ s'' = t')) : y = x ∧ s'' = s' := by
  by_cases q : c
  · exact ⟨(h2.1 q).1.trans (h1.1 q).1.symm, (h2.1 q).2.trans (h1.1 q).2.symm⟩
  · exact ⟨(h2.2 q).1.trans (h1.2 q).1.symm, (h2.2 q).2.trans (h1.2 q).2.symm⟩
theorem canon_key {p : Int} (hp : 2 ≤ p) {raw : List Tm} (hr : Red0 p raw) {y : Tm} (h : y ∈ canon p raw) : ∃ x ∈ raw, x.1 = y.1 := by
  have hc := canon_can (by omega) hr
  have h1 := cf_in hc.1 h
  have h2 := hc.2 y h
  have h3 := canon_cf p raw y.1
  have hne : cf raw y.1 ≠ 0 := by
    intro z
    rw [z, h1, Int.zero_emod, Int.emod_eq_of_lt (by omega) h2.2] at h3
    omega
  obtain ⟨x, hx1, hx2⟩ := cf_ne hne
  exact ⟨x, hx1, hx2⟩
theorem canon_okQ {p n : Int} {w : Nat → Int} (hp : 2 ≤ p) {raw : List Tm} (h : ∀ t ∈ raw, okTm p n w t) (hl : (canon p raw).length ≤ 60) : okQ p n w (canon p raw) := by
  have hr : Red0 p raw := fun t ht => (h t ht).2
  refine ⟨canon_can (by omega) hr, fun y hy => ?_, hl⟩
  obtain ⟨x, hx1, hx2⟩ := canon_key hp hr hy
  rw [← hx2]; exact (h x hx1).1
theorem okK_sum {nv : Int} {w : Nat → Int} {a b : Int} (hw : wtOK w) (ha : okK nv w a) (hb : okK nv w b) (hh : ¬ hi (a + (b - 262143))) : okK nv w (a + (b - 262143)) := by
  have r1 := ha.r
  have r2 := hb.r
  have e := ex_add (a := a) (b := b) (by omega) (by omega) (by omega)
  have ea := eM_ex a
  have eb := eM_ex b
  have dd : dg (a + (b - 262143)) = dg a + dg b := by
    unfold eM at ea eb
    unfold dg
    omega
  have g1 : dg a = exx a * w 0 + exy a * w 1 + exz a * w 2 := ha.2.2.1
  have g2 : dg b = exx b * w 0 + exy b * w 1 + exz b * w 2 := hb.2.2.1
  refine ⟨okm_sum hw ha hb, hh, ?_, ?_⟩
  · show dg (a + (b - 262143)) = exx (a + (b - 262143)) * w 0 + exy (a + (b - 262143)) * w 1 + exz (a + (b - 262143)) * w 2
    rw [dd, g1, g2, e.1, e.2.1, e.2.2, Int.add_mul, Int.add_mul, Int.add_mul]; omega
  · have i1 := ha.2.2.2
    have i2 := hb.2.2.2
    refine ⟨fun z => ?_, fun z => ?_⟩
    · have := i1.1 z; have := i2.1 z; rw [e.2.1]; omega
    · have := i1.2 z; have := i2.2 z; rw [e.2.2]; omega
theorem makeL_ok {s : Ms} {how : Int} {a b : Nat} (hs : MsOK s) (ha : a < 8) (hb : b < 8) (hf : fits 60 (makeL s how a b)) : okQ (s.p : Int) s.n s.w (makeL s how a b) := by
  have hp2 : (2 : Int) ≤ (s.p : Int) := by have := hs.1.1.1; omega
  have oa := hs.2.2.2.1 a ha
  have ob := hs.2.2.2.1 b hb
  have d0 : dvs 262143 262143 := ⟨Int.le_refl _, Int.le_refl _, Int.le_refl _⟩
  unfold makeL at hf ⊢
  by_cases c0 : how = 0
  · rw [if_pos c0] at hf ⊢
    exact mg_ok (a := 262143) (c := 262143) (by omega) hs.2.2.1 oa ob okK1 okK1 d0 hf
  · rw [if_neg c0] at hf ⊢
    by_cases c1 : how = 1
    · rw [if_pos c1] at hf ⊢
      exact mg_ok (a := 262143) (c := 262143) (by omega) hs.2.2.1 oa ob okK1 okK1 d0 hf
    · rw [if_neg c1] at hf ⊢
      refine ⟨canon_can (by omega) (prdR_red (by omega) _ _), fun y hy => ?_, hf.1⟩
      obtain ⟨t, q1, u, q2, q3⟩ := canon_mem (by omega) hy
      have nh := hf.2 y hy
      rw [q3] at nh ⊢
      exact okK_sum hs.2.2.1 (ob.2.1 u q2) (oa.2.1 t q1) nh
section DT
variable {s s' s'' : Ms} {x y x1 x2 x3 x4 x5 : Int}
theorem ring_det (h : ringA s x1 x2 x s') (h2 : ringA s x1 x2 y s'') : y = x ∧ s'' = s' := det2 h h2
theorem weights_det (h : weightsA s x1 x2 x3 x s') (h2 : weightsA s x1 x2 x3 y s'') : y = x ∧ s'' = s' := det2 h h2
theorem feed_det (h : feedA s x1 x2 x3 x4 x5 x s') (h2 : feedA s x1 x2 x3 x4 x5 y s'') : y = x ∧ s'' = s' := det2 h h2
theorem end_det (h : endA s x1 x s') (h2 : endA s x1 y s'') : y = x ∧ s'' = s' := det2 h h2
theorem show_det (h : showA s x1 x s') (h2 : showA s x1 y s'') : y = x ∧ s'' = s' := det2 h h2
theorem part_det (h : partA s x1 x2 x3 x s') (h2 : partA s x1 x2 x3 y s'') : y = x ∧ s'' = s' := det2 h h2
theorem make_det (h : makeA s x1 x2 x3 x4 x s') (h2 : makeA s x1 x2 x3 x4 y s'') : y = x ∧ s'' = s' := by
  by_cases q : (0 ≤ x1 ∧ x1 ≤ 2) ∧ slt x2 ∧ slt x3 ∧ slt x4
  · exact det2 (h.1 q) (h2.1 q)
  · exact ⟨(h2.2 q).1.trans (h.2 q).1.symm, (h2.2 q).2.trans (h.2 q).2.symm⟩
theorem poly_det (h : polyA s x1 x s') (h2 : polyA s x1 y s'') : y = x ∧ s'' = s' := by
  by_cases q : slt x1
  · have a := h.2 q
    have b := h2.2 q
    cases e : rdP s.b s.tn (s.p : Int) s.n s.w with
    | inl f => exact ⟨(b.1 f e).1.trans (a.1 f e).1.symm, (b.1 f e).2.trans (a.1 f e).2.symm⟩
    | inr L => exact ⟨(b.2 L e).1.trans (a.2 L e).1.symm, (b.2 L e).2.trans (a.2 L e).2.symm⟩
  · exact ⟨(h2.1 q).1.trans (h.1 q).1.symm, (h2.1 q).2.trans (h.1 q).2.symm⟩
theorem kept_det (h : keptA s x1 x2 x s') (h2 : keptA s x1 x2 y s'') : y = x ∧ s'' = s' := by
  by_cases q : s.dv = none ∨ ¬ slt x2 ∨ ¬ (0 ≤ x1 ∧ x1 ≤ 9) ∨ ∀ st a d, s.dv = some (st, a, d) → ¬ (x1 ≤ 1 ∨ bitI st (x1 - 2).toNat = 1)
  · exact ⟨(h2.2 q).1.trans (h.2 q).1.symm, (h2.2 q).2.trans (h.2 q).2.symm⟩
  · cases e : s.dv with
    | none => exact absurd (Or.inl e) q
    | some z =>
      obtain ⟨st, a, d⟩ := z
      have q1 : slt x2 := Decidable.not_not.mp (fun z => q (Or.inr (Or.inl z)))
      have q2 : 0 ≤ x1 ∧ x1 ≤ 9 := Decidable.not_not.mp (fun z => q (Or.inr (Or.inr (Or.inl z))))
      have q3 : x1 ≤ 1 ∨ bitI st (x1 - 2).toNat = 1 := Decidable.not_not.mp (fun z => q (Or.inr (Or.inr (Or.inr (fun st' a' d' e' => by
        rw [e] at e'; cases e'; exact z)))))
      have a1 := h.1 st a d e q1 q2.1 q2.2 q3
      have b1 := h2.1 st a d e q1 q2.1 q2.2 q3
      exact ⟨b1.1.trans a1.1.symm, b1.2.trans a1.2.symm⟩
theorem weak_det (h : weakA s x1 x2 x s') (h2 : weakA s x1 x2 y s'') : y = x ∧ s'' = s' := by
  by_cases q : slt x1 ∧ set8 x2
  · obtain ⟨r, a1, a2, a3⟩ := h.1 q
    obtain ⟨r2, b1, b2, b3⟩ := h2.1 q
    have e := DivR.det _ _ _ _ a1 b1
    rw [← e] at b2 b3
    cases r with
    | none => exact ⟨(b2 rfl).1.trans (a2 rfl).1.symm, (b2 rfl).2.trans (a2 rfl).2.symm⟩
    | some d => exact ⟨(b3 d rfl).1.trans (a3 d rfl).1.symm, (b3 d rfl).2.trans (a3 d rfl).2.symm⟩
  · exact ⟨(h2.2 q).1.trans (h.2 q).1.symm, (h2.2 q).2.trans (h.2 q).2.symm⟩
theorem ring_ok (hs : MsOK s) (h : ringA s x1 x2 x s') : MsOK s' := by
  by_cases q : okRing x1 x2
  · rw [(h.1 q).2]
    refine ⟨⟨q.2.2, ?_⟩, q.1, fun i _ => (⟨by decide, by decide⟩ : (1 : Int) ≤ 1 ∧ (1 : Int) ≤ 4), fun k _ => okQ.nil, hs.2.2.2.2.1, hs.2.2.2.2.2.1, trivial⟩
    show ((x2.toNat : Nat) : Int) ≤ 32749
    have := q.2.1; omega
  · rw [(h.2 q).2]; exact hs
theorem weights_ok (hs : MsOK s) (h : weightsA s x1 x2 x3 x s') : MsOK s' := by
  by_cases q : okWt x1 x2 x3
  · rw [(h.1 q).2]
    have hp0 : (0 : Int) < (s.p : Int) := by have := hs.1.1.1; omega
    exact ⟨hs.1, hs.2.1, wts_ok q, fun k hk => rekL_okQ hp0 (wts_ok q) (hs.2.2.2.1 k hk), hs.2.2.2.2.1, hs.2.2.2.2.2.1, trivial⟩
  · rw [(h.2 q).2]; exact hs
theorem feed_ok (hs : MsOK s) (h : feedA s x1 x2 x3 x4 x5 x s') : MsOK s' := by
  by_cases q : s.tn + 20 ≤ 200
  · rw [(h.1 q).2]
    refine ⟨hs.1, hs.2.1, hs.2.2.1, hs.2.2.2.1, ⟨q, fun i hi => ?_⟩, hs.2.2.2.2.2.1, hs.2.2.2.2.2.2⟩
    show 0 ≤ fdB s.b s.tn x1 x2 x3 x4 x5 i ∧ fdB s.b s.tn x1 x2 x3 x4 x5 i < 256
    unfold fdB
    by_cases c : i < s.tn
    · rw [if_pos c]; exact hs.2.2.2.2.1.2 i c
    · rw [if_neg c]; exact byt_r _ _
  · rw [(h.2 q).2]; exact hs
theorem end_ok (hs : MsOK s) (h : endA s x1 x s') : MsOK s' := by
  by_cases q : 0 ≤ x1 ∧ x1 ≤ (s.tn : Int)
  · rw [(h.1 q).2]
    have t := hs.2.2.2.2.1
    exact ⟨hs.1, hs.2.1, hs.2.2.1, hs.2.2.2.1, ⟨by show x1.toNat ≤ 200; omega, fun i hi => t.2 i (by have : i < x1.toNat := hi; omega)⟩, hs.2.2.2.2.2.1, hs.2.2.2.2.2.2⟩
  · rw [(h.2 q).2]; exact hs
theorem show_ok (hs : MsOK s) (h : showA s x1 x s') : MsOK s' := by
  by_cases q : slt x1
  · rw [(h.1 q).2]
    exact ⟨hs.1, hs.2.1, hs.2.2.1, hs.2.2.2.1, hs.2.2.2.2.1, shwL_len (hs.2.2.2.1 x1.toNat (by omega)).2.2, hs.2.2.2.2.2.2⟩
  · rw [(h.2 q).2]; exact hs
theorem part_ok (hs : MsOK s) (h : partA s x1 x2 x3 x s') : MsOK s' := by
  by_cases q : slt x1 ∧ slt x3 ∧ (x2 = 3 ∨ (0 ≤ x2 ∧ x2 < s.n))
  · rw [(h.1 q).2]
    have okf := hs.2.2.2.1 x1.toNat (by have := q.1; omega)
    refine put_ok hs ?_
    by_cases c : x2 = 3
    · rw [if_pos c]; exact lowT_ok okf
    · rw [if_neg c]
      have hp2 : (2 : Int) ≤ (s.p : Int) := by have := hs.1.1.1; omega
      have q3 : 0 ≤ x2 ∧ x2 < s.n := by
        rcases q.2.2 with z | z
        · exact absurd z c
        · exact z
      have := derL_ok (v := x2.toNat) hp2 hs.2.2.1 hs.2.1 (by omega) okf
      rw [show ((x2.toNat : Nat) : Int) = x2 by omega] at this
      exact this
  · rw [(h.2 q).2]; exact hs
theorem kept_ok (hs : MsOK s) (h : keptA s x1 x2 x s') : MsOK s' := by
  by_cases q : s.dv = none ∨ ¬ slt x2 ∨ ¬ (0 ≤ x1 ∧ x1 ≤ 9) ∨ ∀ st a d, s.dv = some (st, a, d) → ¬ (x1 ≤ 1 ∨ bitI st (x1 - 2).toNat = 1)
  · rw [(h.2 q).2]; exact hs
  · cases e : s.dv with
    | none => exact absurd (Or.inl e) q
    | some z =>
      obtain ⟨st, a, d⟩ := z
      have q1 : slt x2 := Decidable.not_not.mp (fun z => q (Or.inr (Or.inl z)))
      have q2 : 0 ≤ x1 ∧ x1 ≤ 9 := Decidable.not_not.mp (fun z => q (Or.inr (Or.inr (Or.inl z))))
      have q3 : x1 ≤ 1 ∨ bitI st (x1 - 2).toNat = 1 := Decidable.not_not.mp (fun z => q (Or.inr (Or.inr (Or.inr (fun st' a' d' e' => by
        rw [e] at e'; cases e'; exact z)))))
      have ok := hs.2.2.2.2.2.2
      rw [e] at ok
      have o2 : (0 ≤ st ∧ st < 256) ∧ a < 8 ∧ DivO (s.p : Int) s.n s.w d := ok
      rw [(h.1 st a d e q1 q2.1 q2.2 q3).2]
      exact put_ok hs (kq_ok o2.2.2 q2)
theorem poly_ok (hs : MsOK s) (h : polyA s x1 x s') : MsOK s' := by
  by_cases q : slt x1
  · have a := h.2 q
    have hp2 : (2 : Int) ≤ (s.p : Int) := by have := hs.1.1.1; omega
    cases e : rdP s.b s.tn (s.p : Int) s.n s.w with
    | inl f => rw [(a.1 f e).2]; exact emp_ok hs f
    | inr L =>
      rw [(a.2 L e).2]
      refine put_ok (emp_ok hs _) ?_
      show okQ (s.p : Int) s.n s.w L
      unfold rdP at e
      cases er : rdAll s.b s.tn (s.p : Int) s.n s.w with
      | inl f => rw [er] at e; cases e
      | inr raw =>
        rw [er] at e
        have rok := rdAll_ok (b := s.b) (n := s.tn) (p := (s.p : Int)) (nv := s.n) (w := s.w) hp2 hs.2.1 hs.2.2.1 er
        have e2 : (if 60 < (canon (s.p : Int) raw).length then (Sum.inl (3, (s.tn : Int)) : Fl ⊕ List Tm) else Sum.inr (canon (s.p : Int) raw)) = Sum.inr L := e
        by_cases c : 60 < (canon (s.p : Int) raw).length
        · rw [if_pos c] at e2; cases e2
        · rw [if_neg c] at e2
          rw [← Sum.inr.inj e2]
          exact canon_okQ hp2 rok (by omega)
  · rw [(h.1 q).2]; exact emp_ok hs _
theorem make_ok (hs : MsOK s) (h : makeA s x1 x2 x3 x4 x s') : MsOK s' := by
  by_cases q : (0 ≤ x1 ∧ x1 ≤ 2) ∧ slt x2 ∧ slt x3 ∧ slt x4
  · have a := h.1 q
    by_cases f : fits 60 (makeL s x1 x2.toNat x3.toNat)
    · rw [(a.1 f).2]
      exact put_ok hs (makeL_ok hs (by omega) (by omega) f)
    · rw [(a.2 f).2]; exact hs
  · rw [(h.2 q).2]; exact hs
end DT
