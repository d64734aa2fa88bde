/-! ===== X10: kept, step ===== -/
section RKP
variable {G : Gl} {S : Sh} {R : MR} {m : Nat} {s : Ms} {I : MI} {Q : Sh → MI → MR → Int → Prop}
theorem aheadOf_spec {st : Int} {k : Nat} (h : RfS S R m) (h21 : I m 21 = st) (hst : 0 ≤ st ∧ st < 256) (hk : k ≤ 8) (hq : Q S I R (nb st k : Int)) : CI G MX10_aheadOf [vR m, vI (k : Int)] S I R Q := by
  have loop : ∀ (q j : Nat), k - j = q → j ≤ k → LX10_aheadOf_4 G m (k : Int) (nb st j : Int) (j : Int) S I R Q := by
    intro q
    induction q with
    | zero =>
      intro j hq1 hj
      refine bX10_aheadOf_4 (br_t (by omega) ?_)
      rw [show j = k by omega]; exact hq
    | succ q ih =>
      intro j hq1 hj
      have nx := ih (j + 1) (by omega) (by omega)
      have hle := nbb_le st j
      rw [nb] at nx
      refine bX10_aheadOf_4 (br_f (by omega) ⟨h.1, ?_⟩)
      rw [h21, v10has hst (by omega), add1 (n := j) (by omega), add1 (n := nb st j) (by omega)]
      by_cases c : bitI st j = 1
      · rw [if_pos c]
        rw [if_pos c] at nx
        exact br_f (by decide) nx
      · rw [if_neg c]
        rw [if_neg c] at nx
        exact br_t rfl nx
  exact bX10_aheadOf (loop k 0 (by omega) (by omega))
theorem kq_ok {p n : Int} {w : Nat → Int} {d : Dv} {x : Int} (h : DivO p n w d) (hx : 0 ≤ x ∧ x ≤ 9) : okQ p n w (kq d x) := by
  unfold kq
  by_cases c0 : x = 0
  · rw [if_pos c0]; exact h.2.1.1
  · rw [if_neg c0]
    by_cases c1 : x = 1
    · rw [if_pos c1]; exact h.2.1.2.1
    · rw [if_neg c1]; exact h.2.1.2.2 _ (by omega)
theorem ref_kept (h : RfS S R m) (hs : MsOK s) (hv : RefV I m s) {x1 x2 : Int} (r1 : InR x1) (r2 : InR x2) (hq : ∀ I' x s', offX I I' m (m + 14) → RefV I' m s' → keptA s x1 x2 x s' → Q S I' R x) : CI G MX10_kept [vR m, vI x1, vI x2] S I R Q := by
  refine bX10_kept ⟨h.1, fun I2 e2 => ?_⟩
  have o2 : offS I I2 m := offS.u e2 (Or.inl rfl)
  have hv2 := hv.oS hs o2
  have v2 := v10slot (m := m) r2
  have v1 := v10in (m := m) r1 (lo := 0) (hi := 9) (by omega) (by omega)
  have hdv := hv2.2.2.2.2.2.2
  have hok := hs.2.2.2.2.2.2
  unfold keptA at hq
  revert hdv hok hq
  generalize hdd : s.dv = dv
  intro hq hdv hok
  cases dv with
  | none =>
    have h20 : I2 m 20 = 0 := hdv
    rw [h20]
    refine br_t rfl (hq I2 _ s o2.X hv2 ⟨fun st a d e => (by cases e), fun _ => ⟨rfl, rfl⟩⟩)
  | some y =>
    obtain ⟨st, a, d⟩ := y
    have h2 : I2 m 20 = 1 ∧ I2 m 21 = st ∧ I2 m 22 = (a : Int) ∧ DvH I2 m st d := hdv
    have ok2 : (0 ≤ st ∧ st < 256) ∧ a < 8 ∧ DivO (s.p : Int) s.n s.w d := hok
    have hD := DvH.parts.mp h2.2.2.2
    have bad : (¬ slt x2 ∨ ¬ (0 ≤ x1 ∧ x1 ≤ 9) ∨ ¬ (x1 ≤ 1 ∨ bitI st (x1 - 2).toNat = 1)) → Q S I2 R (-1) := fun c => hq I2 _ s o2.X hv2 ⟨fun st' a' d' e g1 g2 g3 g4 => (by
      have e' := Option.some.inj e
      have e1 : st = st' := congrArg (fun z => z.1) e'
      rw [← e1] at g4
      exact absurd g4 (fun z => c.elim (fun y => y g1) (fun y => y.elim (fun y2 => y2 ⟨g2, g3⟩) (fun y2 => y2 z)))), fun _ => ⟨rfl, rfl⟩⟩
    rw [h2.1]
    refine br_f (by decide) ⟨p10slot h r2, fun c => bad (Or.inl (fun z => (v2.mpr z) c)), fun c2 => ⟨fun c => bad (Or.inr (Or.inl (fun z => (v1.mpr z) c))), fun c1 => ?_⟩⟩
    have h1 := v1.mp c1
    have hs2 := v2.mp c2
    have eb : x2 = ((x2.toNat : Nat) : Int) := by omega
    have okk := kq_ok ok2.2.2 h1
    have good : (x1 ≤ 1 ∨ bitI st (x1 - 2).toNat = 1) → ∀ I', offRow I2 I' m x2.toNat → RowH I' m x2.toNat (kq d x1) → Q S I' R ((kq d x1).length : Int) := fun hc I' o hR => hq I' _ _ (o2.X.tr o.X) (hv2.put hs o (by omega) hR) ⟨fun st' a' d' e _ _ _ _ => (by
      have e' := Option.some.inj e
      have e1 : d = d' := congrArg (fun z => z.2.2) e'
      rw [← e1]; exact ⟨rfl, rfl⟩), fun c => (by
      rcases c with q | q | q | q
      · cases q
      · exact absurd hs2 q
      · exact absurd h1 q
      · exact absurd hc (q st a d rfl))⟩
    have tail : ∀ (r : Nat), 218 ≤ r → r ≤ 230 → RowH I2 m r (kq d x1) → (x1 ≤ 1 ∨ bitI st (x1 - 2).toNat = 1) → CV G MX10_copies [vR m, vI (r : Int), vI x2] S I2 R (fun S80 I80 R80 => (sT S80 m = 10 ∧ (sT S80 (R80 m 4) = 21 ∧ (((0 : Int) ≤ x2 ∧ x2 < (sL S80 (R80 m 4) : Int)) ∧ Q S80 I80 R80 (I80 (R80 m 4) (Int.toNat x2)))))) := by
      intro r hr1 hr2 hR hc
      rw [eb]
      refine copies_spec h hR okk.2.2 (by omega) (by omega) (by omega) (fun I3 o3 h3 => ⟨h.1, ?_⟩)
      rw [h.2.1.1.2.1, h.2.2.1.1.2.1, h.2.2.2.1.2.1, show Int.toNat ((x2.toNat : Nat) : Int) = x2.toNat by omega, h3.1]
      exact ⟨rfl, ⟨by omega, by omega⟩, good hc I3 o3 h3⟩
    have k54 : (x1 ≤ 1 ∨ bitI st (x1 - 2).toNat = 1) → LX10_kept_54 G m x1 x2 S I2 R Q := by
      intro hc
      refine bX10_kept_54 ⟨fun c => ⟨h.1, ?_⟩, fun c => ⟨h.1, ?_⟩⟩
      · have hb : bitI st (x1 - 2).toNat = 1 := hc.resolve_left (by omega)
        have hl := nbb_le st (x1 - 2).toNat
        rw [w32_id (by omega), show x1 - 2 = (((x1 - 2).toNat : Nat) : Int) by omega]
        refine aheadOf_spec h h2.2.1 ok2.1 (by omega) ⟨h.1, ?_⟩
        have rr : vX10_rowOf m 21 (w32 (2 + (nb st (x1 - 2).toNat : Int))) = ((220 + nb st (x1 - 2).toNat : Nat) : Int) := by
          have := v10row (m := m) (a := 21) (c := 2 + nb st (x1 - 2).toNat) (by omega) (by omega)
          rw [w32_id (by omega), show 2 + (nb st (x1 - 2).toNat : Int) = ((2 + nb st (x1 - 2).toNat : Nat) : Int) by omega]
          refine this.trans ?_
          congr 1; omega
        rw [rr]
        have ek : kq d x1 = d.2.2.2.1.2.2 (x1 - 2).toNat := by unfold kq; rw [if_neg (by omega), if_neg (by omega)]
        exact tail _ (by omega) (by omega) (by rw [ek]; exact hD.2.1.2.2 _ (by omega) hb) hc
      · have h01 : x1 = 0 ∨ x1 = 1 := by omega
        rcases h01 with e | e
        · have rr : vX10_rowOf m 21 x1 = ((218 : Nat) : Int) := by rw [e]; exact v10row (m := m) (a := 21) (c := 0) (by omega) (by omega)
          rw [rr]
          have ek : kq d x1 = d.2.2.2.1.1 := by unfold kq; rw [if_pos e]
          exact tail 218 (by omega) (by omega) (by rw [ek]; exact hD.2.1.1) hc
        · have rr : vX10_rowOf m 21 x1 = ((219 : Nat) : Int) := by rw [e]; exact v10row (m := m) (a := 21) (c := 1) (by omega) (by omega)
          rw [rr]
          have ek : kq d x1 = d.2.2.2.1.2.1 := by unfold kq; rw [if_neg (by omega), if_pos e]
          exact tail 219 (by omega) (by omega) (by rw [ek]; exact hD.2.1.2.1) hc
    refine ⟨fun c => k54 (Or.inl c), fun c => ?_⟩
    rw [w32_id (by omega), h2.2.1, show x1 - 2 = (((x1 - 2).toNat : Nat) : Int) by omega, v10has ok2.1 (by omega)]
    refine ⟨fun z => k54 (Or.inr (Decidable.of_not_not (fun y => z (by rw [if_neg y])))), fun z => bad (Or.inr (Or.inr (fun y => y.elim c (fun y2 => z (by rw [if_pos y2]; decide)))))⟩
theorem ref_step (h : RfS S R m) (hs : MsOK s) (hv : RefV I m s) {x1 x2 : Int} (r1 : InR x1) (r2 : InR x2) (hq : ∀ I' x, offS I I' m → stepA s x1 x2 x → Q S I' R x) : CI G MX10_step [vR m, vI x1, vI x2] S I R Q := by
  refine bX10_step ⟨h.1, fun I2 e2 => ?_⟩
  have o2 : offS I I2 m := offS.u e2 (Or.inl rfl)
  have hv2 := hv.oS hs o2
  have hdv := hv2.2.2.2.2.2.2
  have hok := hs.2.2.2.2.2.2
  unfold stepA at hq
  revert hdv hok hq
  generalize s.dv = dv
  intro hq hdv hok
  cases dv with
  | none =>
    have h20 : I2 m 20 = 0 := hdv
    rw [h20]
    exact br_f (fun z => z rfl) (hq I2 _ o2 rfl)
  | some y =>
    obtain ⟨st, a, d⟩ := y
    have h2 : I2 m 20 = 1 ∧ I2 m 21 = st ∧ I2 m 22 = (a : Int) ∧ DvH I2 m st d := hdv
    have ok2 : (0 ≤ st ∧ st < 256) ∧ a < 8 ∧ DivO (s.p : Int) s.n s.w d := hok
    have hD := DvH.parts.mp h2.2.2.2
    have hq2 : ∀ (I' : MI) (x : Int), offS I I' m → x = (if x1 = -1 then (if x2 = 0 then (d.1 : Int) else if x2 = 1 then (d.2.1 : Int) else if x2 = 2 then 1 else -1) else if (0 ≤ x1 ∧ x1 < (d.1 : Int)) ∧ 0 ≤ x2 ∧ x2 ≤ 4 then d.2.2.2.2 x1.toNat x2.toNat else -1) → Q S I' R x := hq
    have c40 := ok2.2.2.1.1
    have v1 := v10in (m := m) r1 (lo := 0) (hi := (d.1 : Int) - 1) (by omega) (by omega)
    have v2 := v10in (m := m) r2 (lo := 0) (hi := 4) (by omega) (by omega)
    rw [h2.1, hD.1.2.2, hD.1.2.1, w64_id (by omega)]
    refine br_t (by decide) ⟨fun c => ⟨fun z => hq2 I2 _ o2 ?_, fun z => ⟨fun z2 => hq2 I2 _ o2 ?_, fun z2 => ?_⟩⟩, fun c => ⟨fun z0 => ⟨fun z1 => ⟨fun z2 => hq2 I2 _ o2 ?_, fun z2 => hq2 I2 _ o2 ?_⟩, fun z1 => hq2 I2 _ o2 ?_⟩, fun z0 => hq2 I2 _ o2 ?_⟩⟩
    · rw [if_neg c, if_neg (fun y => (v1.mpr (by omega)) z)]
    · rw [if_neg c, if_neg (fun y => (v2.mpr y.2) z2)]
    · have g1 := v1.mp z
      have g2 := v2.mp z2
      rw [h.2.1.2.2.1.2.1, h.2.2.1.2.2.1.2.1, h.2.2.2.2.2.1.2.1, w32_id (x := 5 * x1) (by omega), w32_id (x := 5 * x1 + x2) (by omega)]
      refine ⟨rfl, ⟨by omega, by omega⟩, hq2 I2 _ o2 ?_⟩
      rw [if_neg c, if_pos ⟨by omega, g2⟩, show Int.toNat (5 * x1 + x2) = 5 * x1.toNat + x2.toNat by omega]
      exact hD.2.2.2 x1.toNat (by omega) x2.toNat (by omega)
    · rw [if_pos (Decidable.not_not.mp c), if_neg z0, if_neg z1, if_neg z2]
    · rw [if_pos (Decidable.not_not.mp c), if_neg z0, if_neg z1, if_pos (Decidable.not_not.mp z2)]
    · rw [if_pos (Decidable.not_not.mp c), if_neg z0, if_pos (Decidable.not_not.mp z1)]
    · rw [if_pos (Decidable.not_not.mp c), if_pos (Decidable.not_not.mp z0)]
end RKP
