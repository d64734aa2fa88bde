/-! ===== both sides together ===== -/
section LW
variable {S S' : Sh} {I I' I2 : MI} {R R' : MR} {s s' s2 : Ms} {m i : Nat}
end LW
/-! ===== what a call answers is determined, and what it leaves keeps the bounds ===== -/
theorem canon_key {p : Int} (hp : 2 ≤ p) {raw : List Tm} (hr : Red0 p raw) {y : Tm} (h : y ∈ canon p raw) : ∃ x ∈ raw, x.1 = y.1 := by
  have hc := canon_can (by omega) hr
  have h1 := cf_in hc.1 h
  have h2 := hc.2 y h
  have h3 := canon_cf p raw y.1
  have hne : cf raw y.1 ≠ 0 := by
    intro z
    rw [z, h1, Int.zero_emod, Int.emod_eq_of_lt (by omega) h2.2] at h3
    omega
  obtain ⟨x, hx1, hx2⟩ := cf_ne hne
  exact ⟨x, hx1, hx2⟩
theorem canon_okQ {p n : Int} {w : Nat → Int} (hp : 2 ≤ p) {raw : List Tm} (h : ∀ t ∈ raw, okTm p n w t) (hl : (canon p raw).length ≤ 60) : okQ p n w (canon p raw) := by
  have hr : Red0 p raw := fun t ht => (h t ht).2
  refine ⟨canon_can (by omega) hr, fun y hy => ?_, hl⟩
  obtain ⟨x, hx1, hx2⟩ := canon_key hp hr hy
  rw [← hx2]; exact (h x hx1).1
theorem okK_sum {nv : Int} {w : Nat → Int} {a b : Int} (hw : wtOK w) (ha : okK nv w a) (hb : okK nv w b) (hh : ¬ hi (a + (b - 262143))) : okK nv w (a + (b - 262143)) := by
  have r1 := ha.r
  have r2 := hb.r
  have e := ex_add (a := a) (b := b) (by omega) (by omega) (by omega)
  have ea := eM_ex a
  have eb := eM_ex b
  have dd : dg (a + (b - 262143)) = dg a + dg b := by
    unfold eM at ea eb
    unfold dg
    omega
  have g1 : dg a = exx a * w 0 + exy a * w 1 + exz a * w 2 := ha.2.2.1
  have g2 : dg b = exx b * w 0 + exy b * w 1 + exz b * w 2 := hb.2.2.1
  refine ⟨okm_sum hw ha hb, hh, ?_, ?_⟩
  · show dg (a + (b - 262143)) = exx (a + (b - 262143)) * w 0 + exy (a + (b - 262143)) * w 1 + exz (a + (b - 262143)) * w 2
    rw [dd, g1, g2, e.1, e.2.1, e.2.2, Int.add_mul, Int.add_mul, Int.add_mul]; omega
  · have i1 := ha.2.2.2
    have i2 := hb.2.2.2
    refine ⟨fun z => ?_, fun z => ?_⟩
    · have := i1.1 z; have := i2.1 z; rw [e.2.1]; omega
    · have := i1.2 z; have := i2.2 z; rw [e.2.2]; omega
theorem makeL_ok {s : Ms} {how : Int} {a b : Nat} (hs : MsOK s) (ha : a < 8) (hb : b < 8) (hf : fits 60 (makeL s how a b)) : okQ (s.p : Int) s.n s.w (makeL s how a b) := by
  have hp2 : (2 : Int) ≤ (s.p : Int) := by have := hs.1.1.1; omega
  have oa := hs.2.2.2.1 a ha
  have ob := hs.2.2.2.1 b hb
  have d0 : dvs 262143 262143 := ⟨Int.le_refl _, Int.le_refl _, Int.le_refl _⟩
  unfold makeL at hf ⊢
  by_cases c0 : how = 0
  · rw [if_pos c0] at hf ⊢
    exact mg_ok (a := 262143) (c := 262143) (by omega) hs.2.2.1 oa ob okK1 okK1 d0 hf
  · rw [if_neg c0] at hf ⊢
    by_cases c1 : how = 1
    · rw [if_pos c1] at hf ⊢
      exact mg_ok (a := 262143) (c := 262143) (by omega) hs.2.2.1 oa ob okK1 okK1 d0 hf
    · rw [if_neg c1] at hf ⊢
      refine ⟨canon_can (by omega) (prdR_red (by omega) _ _), fun y hy => ?_, hf.1⟩
      obtain ⟨t, q1, u, q2, q3⟩ := canon_mem (by omega) hy
      have nh := hf.2 y hy
      rw [q3] at nh ⊢
      exact okK_sum hs.2.2.1 (ob.2.1 u q2) (oa.2.1 t q1) nh
section DT
variable {s s' s'' : Ms} {x y x1 x2 x3 x4 x5 : Int}
theorem ring_ok (hs : MsOK s) (h : ringA s x1 x2 x s') : MsOK s' := by
  by_cases q : okRing x1 x2
  · rw [(h.1 q).2]
    refine ⟨⟨q.2.2, ?_⟩, q.1, fun i _ => (⟨by decide, by decide⟩ : (1 : Int) ≤ 1 ∧ (1 : Int) ≤ 4), fun k _ => okQ.nil, hs.2.2.2.2.1, hs.2.2.2.2.2.1, trivial⟩
    show ((x2.toNat : Nat) : Int) ≤ 32749
    have := q.2.1; omega
  · rw [(h.2 q).2]; exact hs
theorem weights_ok (hs : MsOK s) (h : weightsA s x1 x2 x3 x s') : MsOK s' := by
  by_cases q : okWt x1 x2 x3
  · rw [(h.1 q).2]
    have hp0 : (0 : Int) < (s.p : Int) := by have := hs.1.1.1; omega
    exact ⟨hs.1, hs.2.1, wts_ok q, fun k hk => rekL_okQ hp0 (wts_ok q) (hs.2.2.2.1 k hk), hs.2.2.2.2.1, hs.2.2.2.2.2.1, trivial⟩
  · rw [(h.2 q).2]; exact hs
theorem feed_ok (hs : MsOK s) (h : feedA s x1 x2 x3 x4 x5 x s') : MsOK s' := by
  by_cases q : s.tn + 20 ≤ 200
  · rw [(h.1 q).2]
    refine ⟨hs.1, hs.2.1, hs.2.2.1, hs.2.2.2.1, ⟨q, fun i hi => ?_⟩, hs.2.2.2.2.2.1, hs.2.2.2.2.2.2⟩
    show 0 ≤ fdB s.b s.tn x1 x2 x3 x4 x5 i ∧ fdB s.b s.tn x1 x2 x3 x4 x5 i < 256
    unfold fdB
    by_cases c : i < s.tn
    · rw [if_pos c]; exact hs.2.2.2.2.1.2 i c
    · rw [if_neg c]; exact byt_r _ _
  · rw [(h.2 q).2]; exact hs
theorem end_ok (hs : MsOK s) (h : endA s x1 x s') : MsOK s' := by
  by_cases q : 0 ≤ x1 ∧ x1 ≤ (s.tn : Int)
  · rw [(h.1 q).2]
    have t := hs.2.2.2.2.1
    exact ⟨hs.1, hs.2.1, hs.2.2.1, hs.2.2.2.1, ⟨by show x1.toNat ≤ 200; omega, fun i hi => t.2 i (by have : i < x1.toNat := hi; omega)⟩, hs.2.2.2.2.2.1, hs.2.2.2.2.2.2⟩
  · rw [(h.2 q).2]; exact hs
theorem show_ok (hs : MsOK s) (h : showA s x1 x s') : MsOK s' := by
  by_cases q : slt x1
  · rw [(h.1 q).2]
    exact ⟨hs.1, hs.2.1, hs.2.2.1, hs.2.2.2.1, hs.2.2.2.2.1, shwL_len (hs.2.2.2.1 x1.toNat (by omega)).2.2, hs.2.2.2.2.2.2⟩
  · rw [(h.2 q).2]; exact hs
theorem kept_ok (hs : MsOK s) (h : keptA s x1 x2 x s') : MsOK s' := by
  by_cases q : s.dv = none ∨ ¬ slt x2 ∨ ¬ (0 ≤ x1 ∧ x1 ≤ 9) ∨ ∀ st a d, s.dv = some (st, a, d) → ¬ (x1 ≤ 1 ∨ bitI st (x1 - 2).toNat = 1)
  · rw [(h.2 q).2]; exact hs
  · cases e : s.dv with
    | none => exact absurd (Or.inl e) q
    | some z =>
      obtain ⟨st, a, d⟩ := z
      have q1 : slt x2 := Decidable.not_not.mp (fun z => q (Or.inr (Or.inl z)))
      have q2 : 0 ≤ x1 ∧ x1 ≤ 9 := Decidable.not_not.mp (fun z => q (Or.inr (Or.inr (Or.inl z))))
      have q3 : x1 ≤ 1 ∨ bitI st (x1 - 2).toNat = 1 := Decidable.not_not.mp (fun z => q (Or.inr (Or.inr (Or.inr (fun st' a' d' e' => by
        rw [e] at e'; cases e'; exact z)))))
      have ok := hs.2.2.2.2.2.2
      rw [e] at ok
      have o2 : (0 ≤ st ∧ st < 256) ∧ a < 8 ∧ DivO (s.p : Int) s.n s.w d := ok
      rw [(h.1 st a d e q1 q2.1 q2.2 q3).2]
      exact put_ok hs (kq_ok o2.2.2 q2)
theorem poly_ok (hs : MsOK s) (h : polyA s x1 x s') : MsOK s' := by
  by_cases q : slt x1
  · have a := h.2 q
    have hp2 : (2 : Int) ≤ (s.p : Int) := by have := hs.1.1.1; omega
    cases e : rdP s.b s.tn (s.p : Int) s.n s.w with
    | inl f => rw [(a.1 f e).2]; exact emp_ok hs f
    | inr L =>
      rw [(a.2 L e).2]
      refine put_ok (emp_ok hs _) ?_
      show okQ (s.p : Int) s.n s.w L
      unfold rdP at e
      cases er : rdAll s.b s.tn (s.p : Int) s.n s.w with
      | inl f => rw [er] at e; cases e
      | inr raw =>
        rw [er] at e
        have rok := rdAll_ok (b := s.b) (n := s.tn) (p := (s.p : Int)) (nv := s.n) (w := s.w) hp2 hs.2.1 hs.2.2.1 er
        have e2 : (if 60 < (canon (s.p : Int) raw).length then (Sum.inl (3, (s.tn : Int)) : Fl ⊕ List Tm) else Sum.inr (canon (s.p : Int) raw)) = Sum.inr L := e
        by_cases c : 60 < (canon (s.p : Int) raw).length
        · rw [if_pos c] at e2; cases e2
        · rw [if_neg c] at e2
          rw [← Sum.inr.inj e2]
          exact canon_okQ hp2 rok (by omega)
  · rw [(h.1 q).2]; exact emp_ok hs _
theorem make_ok (hs : MsOK s) (h : makeA s x1 x2 x3 x4 x s') : MsOK s' := by
  by_cases q : (0 ≤ x1 ∧ x1 ≤ 2) ∧ slt x2 ∧ slt x3 ∧ slt x4
  · have a := h.1 q
    by_cases f : fits 60 (makeL s x1 x2.toNat x3.toNat)
    · rw [(a.1 f).2]
      exact put_ok hs (makeL_ok hs (by omega) (by omega) f)
    · rw [(a.2 f).2]; exact hs
  · rw [(h.2 q).2]; exact hs
end DT

