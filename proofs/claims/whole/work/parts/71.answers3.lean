/-! ===== X10: ring, weights, part, make ===== -/
def partA (s : Ms) (x1 x2 x3 x : Int) (s' : Ms) : Prop := (slt x1 ∧ slt x3 ∧ (x2 = 3 ∨ (0 ≤ x2 ∧ x2 < s.n)) → x = (((if x2 = 3 then lowT (s.f x1.toNat) else derL (s.p : Int) s.w x2 (s.f x1.toNat)).length : Nat) : Int) ∧ s' = put s x3.toNat (if x2 = 3 then lowT (s.f x1.toNat) else derL (s.p : Int) s.w x2 (s.f x1.toNat))) ∧ (¬ (slt x1 ∧ slt x3 ∧ (x2 = 3 ∨ (0 ≤ x2 ∧ x2 < s.n))) → x = -1 ∧ s' = s)
/-- all products of terms -/
def prdR (p : Int) : List Tm → List Tm → List Tm
  | [], _ => []
  | t :: a, b => b.map (tmT p t.2 (t.1 - 262143)) ++ prdR p a b
theorem prdR_app (p : Int) : ∀ (a c b : List Tm), prdR p (a ++ c) b = prdR p a b ++ prdR p c b
  | [], _, _ => rfl
  | t :: a, c, b => by
    show b.map _ ++ prdR p (a ++ c) b = (b.map _ ++ prdR p a b) ++ prdR p c b
    rw [prdR_app p a c b, List.append_assoc]
theorem prdR_len (p : Int) : ∀ (a b : List Tm), (prdR p a b).length = a.length * b.length
  | [], _ => by rw [List.length_nil, Nat.zero_mul]; rfl
  | t :: a, b => by
    show (b.map _ ++ prdR p a b).length = _
    rw [List.length_append, List.length_map, prdR_len p a b, List.length_cons, Nat.succ_mul]; omega
def makeL (s : Ms) (how : Int) (a b : Nat) : List Tm := if how = 0 then mg (s.p : Int) 1 0 (s.f a) (s.f b) else if how = 1 then mg (s.p : Int) ((s.p : Int) - 1) 0 (s.f a) (s.f b) else canon (s.p : Int) (prdR (s.p : Int) (s.f a) (s.f b))
def makeA (s : Ms) (x1 x2 x3 x4 x : Int) (s' : Ms) : Prop := ((0 ≤ x1 ∧ x1 ≤ 2) ∧ slt x2 ∧ slt x3 ∧ slt x4 → (fits 60 (makeL s x1 x2.toNat x3.toNat) → x = ((makeL s x1 x2.toNat x3.toNat).length : Int) ∧ s' = put s x4.toNat (makeL s x1 x2.toNat x3.toNat)) ∧ (¬ fits 60 (makeL s x1 x2.toNat x3.toNat) → x = -1 ∧ s' = s)) ∧ (¬ ((0 ≤ x1 ∧ x1 ≤ 2) ∧ slt x2 ∧ slt x3 ∧ slt x4) → x = -1 ∧ s' = s)
theorem rek_exps {w : Nat → Int} (t : Tm) : exx (rek w t).1 = exx t.1 ∧ exy (rek w t).1 = exy t.1 ∧ exz (rek w t).1 = exz t.1 := by
  have r := ex_r t.1
  exact ⟨exx_pk (by omega) (by omega) (by omega), exy_pk (by omega) (by omega) (by omega), exz_pk (by omega) (by omega) (by omega)⟩
theorem RowH.rek {I : MI} {m r : Nat} {L : List Tm} {w : Nat → Int} (h : RowH I m r L) : RowH I m r (L.map (rek w)) := by
  refine ⟨by rw [List.length_map]; exact h.1, fun j t ht => ?_⟩
  rw [List.getElem?_map] at ht
  cases hj : L[j]? with
  | none => rw [hj] at ht; cases ht
  | some a =>
    rw [hj] at ht
    have e : _root_.id (Jvm.Pilot.CStairsNearLaw_law_r1133_6cdbb7.rek w a) = t := Option.some.inj ht
    have e2 := rek_exps (w := w) a
    have := h.2 j a hj
    rw [← e]
    show I (m + 3) (60 * r + j) = a.2 ∧ _
    rw [show (_root_.id (Jvm.Pilot.CStairsNearLaw_law_r1133_6cdbb7.rek w a)) = Jvm.Pilot.CStairsNearLaw_law_r1133_6cdbb7.rek w a from rfl, e2.1, e2.2.1, e2.2.2]
    exact this
theorem okQ.rek {p n : Int} {w u : Nat → Int} {L : List Tm} (hw : wtOK w) (h : okQ p n u L) : okR n w (L.map (rek w)) := by
  refine ⟨fun t ht => ?_, by rw [List.length_map]; exact h.2.2⟩
  obtain ⟨a, ha, e⟩ := List.mem_map.mp ht
  have k := h.2.1 a ha
  have e2 := rek_exps (w := w) a
  have k2 := rek_ok hw k.2.1
  rw [← e]
  refine ⟨⟨k2.2.2, ?_⟩, k2.2.1⟩
  have v := k.2.2.2
  unfold inV at v ⊢
  rw [e2.2.1, e2.2.2]; exact v
theorem rekL_okQ {p n : Int} {w u : Nat → Int} {L : List Tm} (hp : 0 < p) (hw : wtOK w) (h : okQ p n u L) : okQ p n w (rekL p w L) := by
  have k := rekL_ok hp hw h.P
  have hR : Red0 p (L.map (rek w)) := red0_of (red_rek h.1.2)
  have kI : HpI p n w (heapsL p [] (L.map (rek w))) := heapsL_I hp HpI.nil (fun t ht => ⟨((h.rek hw).1 t ht).1, hR t ht⟩)
  refine ⟨k.1.1, fun t ht => ?_, by have := k.2; have := h.2.2; omega⟩
  have k1 := k.1.2 t ht
  have ht2 : t ∈ heapsL p [] (L.map (rek w)) := (List.mem_filter.mp ht).1
  exact ⟨k1.1, k1.2.1, k1.2.2, (kI.2.2 t ht2).2⟩
section RB3
variable {G : Gl} {S : Sh} {R : MR} {m : Nat} {s : Ms} {I I' : MI} {Q : Sh → MI → MR → Int → Prop}
theorem sq_lt {d : Nat} {p : Int} (h : ¬ p < ((d * d : Nat) : Int)) (hp : p ≤ 32749) : d < 182 := by
  refine Nat.lt_of_not_le (fun z => ?_)
  have := Nat.mul_le_mul z z
  omega
theorem isPrime10_spec {p : Int} (hp : 2 ≤ p ∧ p ≤ 32749) (h1 : isP p.toNat → Q S I R 1) (h0 : ¬ isP p.toNat → Q S I R 0) : CI G MX10_isPrime [vR m, vI p] S I R Q := by
  have loop : ∀ (q d : Nat), 182 - d = q → d ≤ 182 → 2 ≤ d → (∀ e, 2 ≤ e → e < d → ¬ e ∣ p.toNat) → LX10_isPrime_2 G p (d : Int) S I R Q := by
    intro q
    induction q using Nat.strongRecOn with
    | _ q ih =>
      intro d hq1 hd h2 hno
      have emul : w32 ((d : Int) * (d : Int)) = ((d * d : Nat) : Int) := by
        have : d * d ≤ 182 * 182 := Nat.mul_le_mul hd hd
        rw [w32_id (by rw [← Int.natCast_mul]; omega), Int.natCast_mul]
      refine bX10_isPrime_2 ?_
      rw [emul, add1 (by omega)]
      refine ⟨fun c => h1 ⟨by omega, fun e e2 ee hdv => ?_⟩, fun c => ⟨by omega, ?_⟩⟩
      · by_cases hed : e < d
        · exact hno e e2 hed hdv
        · have : d * d ≤ e * e := Nat.mul_le_mul (by omega) (by omega)
          omega
      · have hd182 := sq_lt c hp.2
        rw [irem_eq (by omega) (by omega) (by omega) (by omega)]
        have hdvd : p % (d : Int) = 0 ↔ d ∣ p.toNat := by
          rw [show p = ((p.toNat : Nat) : Int) by omega, ← Int.natCast_emod]
          rw [show (((p.toNat : Nat) : Int)).toNat = p.toNat by omega]
          constructor
          · intro z; exact Nat.dvd_of_mod_eq_zero (by omega)
          · intro z; have := Nat.mod_eq_zero_of_dvd z; omega
        refine ⟨fun z => ?_, fun z => h0 (fun hP => ?_)⟩
        · refine ih (182 - (d + 1)) (by omega) (d + 1) rfl (by omega) (by omega) (fun e e2 ee => ?_)
          by_cases hed : e = d
          · rw [hed]; exact fun q => z (hdvd.mpr q)
          · exact hno e e2 (by omega)
        · exact hP.2 d h2 (by omega) (hdvd.mp (Decidable.not_not.mp z))
  exact bX10_isPrime (loop 180 2 rfl (by omega) (by omega) (fun e h1 h2 => by omega))
theorem ref_ring (h : RfS S R m) (hs : MsOK s) (hv : RefV I m s) {x1 x2 : Int} (r1 : InR x1) (r2 : InR x2) (hq : ∀ I' x s', offX I I' m (m + 14) → RefV I' m s' → ringA s x1 x2 x s' → Q S I' R x) : CI G MX10_ring [vR m, vI x1, vI x2] S I R Q := by
  refine bX10_ring ⟨h.1, fun I2 e2 => ?_⟩
  have o2 : offS I I2 m := offS.u e2 (Or.inl rfl)
  have hv2 := hv.oS hs o2
  have v1 := v10in (m := m) r1 (lo := 1) (hi := 3) (by omega) (by omega)
  have v2 := v10in (m := m) r2 (lo := 2) (hi := 32749) (by omega) (by omega)
  have bad : ¬ okRing x1 x2 → Q S I2 R 0 := fun c => hq I2 _ s o2.X hv2 ⟨fun z => absurd z c, fun _ => ⟨rfl, rfl⟩⟩
  refine ⟨fun c => bad (fun z => (v1.mpr z.1) c), fun c1 => ⟨fun c => bad (fun z => (v2.mpr z.2.1) c), fun c2 => isPrime10_spec (v2.mp c2) (fun pp => br_t (by decide) ⟨h.1, fun I3 e3 => fun I4 e4 => ?_⟩) (fun np => br_f (by decide) (bad (fun z => np z.2.2)))⟩⟩
  have h1 := v1.mp c1
  have h2 := v2.mp c2
  have ok : okRing x1 x2 := ⟨h1, h2, pp⟩
  have g : ∀ b, b ≠ m → I4 b = I2 b := fun b hb => by rw [u_n e4 hb, u_n e3 hb]
  have gm : ∀ j, j ≠ 1 → j ≠ 2 → I4 m j = I2 m j := fun j a b => by rw [u_o e4 b, u_o e3 a]
  have g1 : I4 m 1 = x1 := by rw [u_o e4 (by omega), u_s e3]
  have g2 : I4 m 2 = x2 := u_s e4
  have loop2 : ∀ (q k : Nat) (J : MI), 8 - k = q → k ≤ 8 → (∀ b, b ≠ m → b ≠ m + 1 → b ≠ m + 2 → J b = I4 b) → J m = I4 m → (∀ i, i < 3 → J (m + 1) i = 1) → (∀ j, j < k → J (m + 2) j = 0) → LX10_ring_75 G m (k : Int) S J R Q := by
    intro q
    induction q with
    | zero =>
      intro k J hq1 hk ho hm hw hr
      refine bX10_ring_75 (br_t (by omega) ⟨h.1, fun J2 f2 => ?_⟩)
      have k0 : ∀ b, b ≠ m → J2 b = J b := fun b hb => u_n f2 hb
      have km : ∀ j, j ≠ 20 → J2 m j = I4 m j := fun j hj => by rw [u_o f2 hj, hm]
      refine hq J2 _ _ (o2.X.tr (fun b hb => by rw [k0 b (by omega), ho b (by omega) (by omega) (by omega)]; exact g b (by omega))) ?_ ⟨fun _ => ⟨rfl, rfl⟩, fun z => absurd ok z⟩
      refine ⟨⟨by rw [km 1 (by omega)]; exact g1, h1, fun i hi => by rw [k0 _ (by omega)]; exact hw i hi, fun i _ => (⟨by decide, by decide⟩ : (1 : Int) ≤ 1 ∧ (1 : Int) ≤ 4)⟩, ⟨?_, ?_⟩, fun j hj => ⟨by rw [k0 _ (by omega)]; exact hr j (by omega), fun i t ht => by cases ht⟩, ⟨?_, fun i hi => ?_⟩, ?_, ⟨?_, fun i x hx => ?_⟩, u_s f2⟩
      · rw [km 2 (by omega), g2]; show x2 = ((x2.toNat : Nat) : Int); omega
      · show (2 : Int) ≤ ((x2.toNat : Nat) : Int) ∧ ((x2.toNat : Nat) : Int) ≤ 32749; omega
      · rw [km 11 (by omega), gm 11 (by omega) (by omega)]; exact hv2.2.2.2.1.1
      · rw [k0 _ (by omega), ho _ (by omega) (by omega) (by omega), g _ (by omega)]; exact hv2.2.2.2.1.2 i hi
      · rw [km 14 (by omega), km 15 (by omega), gm 14 (by omega) (by omega), gm 15 (by omega) (by omega)]; exact hv2.2.2.2.2.1
      · rw [km 19 (by omega), gm 19 (by omega) (by omega)]; exact hv2.2.2.2.2.2.1.1
      · rw [k0 _ (by omega), ho _ (by omega) (by omega) (by omega), g _ (by omega)]; exact hv2.2.2.2.2.2.1.2 i x hx
    | succ q ih =>
      intro k J hq1 hk ho hm hw hr
      refine bX10_ring_75 (br_f (by omega) ⟨h.1, ?_⟩)
      rw [h.2.1.1.2.1, h.2.2.1.1.2.1, h.2.2.2.1.2.1, show Int.toNat (k : Int) = k by omega, add1 (by omega)]
      refine ⟨rfl, ⟨by omega, by omega⟩, fun J2 f2 => ih (k + 1) J2 (by omega) (by omega) (fun b b1 b2 b3 => by rw [u_n f2 b3]; exact ho b b1 b2 b3) (by rw [u_n f2 (by omega)]; exact hm) (fun i hi => by rw [u_n f2 (by omega)]; exact hw i hi) (fun j hj => ?_)⟩
      by_cases hjk : j = k
      · rw [hjk, u_s f2]
      · rw [u_o f2 hjk]; exact hr j (by omega)
  have loop1 : ∀ (q k : Nat) (J : MI), 3 - k = q → k ≤ 3 → (∀ b, b ≠ m + 1 → J b = I4 b) → (∀ i, i < k → J (m + 1) i = 1) → LX10_ring_55 G m (k : Int) S J R Q := by
    intro q
    induction q with
    | zero =>
      intro k J hq1 hk ho hw
      refine bX10_ring_55 (br_t (by omega) (loop2 8 0 J rfl (by omega) (fun b _ b2 _ => ho b b2) (ho m (by omega)) (fun i hi => hw i (by omega)) (fun j hj => absurd hj (Nat.not_lt_zero _))))
    | succ q ih =>
      intro k J hq1 hk ho hw
      refine bX10_ring_55 (br_f (by omega) ⟨h.1, ?_⟩)
      rw [h.2.1.1.1, h.2.2.1.1.1, h.2.2.2.1.1, show Int.toNat (k : Int) = k by omega, add1 (by omega)]
      refine ⟨rfl, ⟨by omega, by omega⟩, fun J2 f2 => ih (k + 1) J2 (by omega) (by omega) (fun b hb => by rw [u_n f2 hb]; exact ho b hb) (fun i hi => ?_)⟩
      by_cases hik : i = k
      · rw [hik, u_s f2]
      · rw [u_o f2 hik]; exact hw i (by omega)
  exact loop1 3 0 I4 rfl (by omega) (fun _ _ => rfl) (fun i hi => absurd hi (Nat.not_lt_zero _))
theorem wts_ok {x1 x2 x3 : Int} (h : okWt x1 x2 x3) : wtOK (wts x1 x2 x3) := by
  intro i hi
  unfold okWt at h
  unfold wts
  by_cases c0 : i = 0
  · rw [if_pos c0]; exact h.1
  · rw [if_neg c0]
    by_cases c1 : i = 1
    · rw [if_pos c1]; exact h.2.1
    · rw [if_neg c1]; exact h.2.2
theorem ref_weights (h : RfS S R m) (hs : MsOK s) (hv : RefV I m s) {x1 x2 x3 : Int} (r1 : InR x1) (r2 : InR x2) (r3 : InR x3) (hq : ∀ I' x s', offX I I' m (m + 14) → RefV I' m s' → weightsA s x1 x2 x3 x s' → Q S I' R x) : CI G MX10_weights [vR m, vI x1, vI x2, vI x3] S I R Q := by
  refine bX10_weights ⟨h.1, fun I2 e2 => ?_⟩
  have o2 : offS I I2 m := offS.u e2 (Or.inl rfl)
  have hv2 := hv.oS hs o2
  have v1 := v10in (m := m) r1 (lo := 1) (hi := 4) (by omega) (by omega)
  have v2 := v10in (m := m) r2 (lo := 1) (hi := 4) (by omega) (by omega)
  have v3 := v10in (m := m) r3 (lo := 1) (hi := 4) (by omega) (by omega)
  have bad : ¬ okWt x1 x2 x3 → Q S I2 R 0 := fun c => hq I2 _ s o2.X hv2 ⟨fun z => absurd z c, fun _ => ⟨rfl, rfl⟩⟩
  refine ⟨fun c => bad (fun z => (v1.mpr z.1) c), fun c1 => ⟨fun c => bad (fun z => (v2.mpr z.2.1) c), fun c2 => ⟨fun c3 => ?_, fun c => bad (fun z => c (v3.mpr z.2.2))⟩⟩⟩
  have ok : okWt x1 x2 x3 := ⟨v1.mp c1, v2.mp c2, v3.mp c3⟩
  have wok := wts_ok ok
  have hp2 := hv2.2.1.2
  rw [h.2.1.1.1, h.2.2.1.1.1, h.2.2.2.1.1]
  refine ⟨rfl, by omega, fun J1 f1 => ⟨by omega, fun J2 f2 => ⟨by omega, fun J3 f3 => ?_⟩⟩⟩
  have g : ∀ b, b ≠ m + 1 → J3 b = I2 b := fun b hb => by rw [u_n f3 hb, u_n f2 hb, u_n f1 hb]
  have gw : RfW J3 m s.n (wts x1 x2 x3) := by
    refine ⟨by rw [g m (by omega)]; exact hv2.1.1, hv2.1.2.1, fun i hi => ?_, wok⟩
    have h3 : i = 0 ∨ i = 1 ∨ i = 2 := by omega
    rcases h3 with rfl | rfl | rfl
    · rw [u_o f3 (by decide), u_o f2 (by decide)]; exact u_s f1
    · rw [u_o f3 (by decide)]; exact u_s f2
    · exact u_s f3
  have gp : RfP J3 m (s.p : Int) := ⟨by rw [g m (by omega)]; exact hv2.2.1.1, hp2⟩
  have loop : ∀ (q k : Nat) (J : MI), 8 - k = q → k ≤ 8 → (∀ b, b ≠ m → b ≠ m + 2 → b ≠ m + 3 → b ≠ m + 4 → b ≠ m + 5 → b ≠ m + 6 → J b = J3 b) → (∀ j, j ≠ 9 → J m j = J3 m j) → (∀ j, j < k → RowH J m j (rekL (s.p : Int) (wts x1 x2 x3) (s.f j))) → (∀ j, k ≤ j → j < 8 → RowH J m j (s.f j)) → LX10_weights_70 G m (k : Int) S J R Q := by
    intro q
    induction q with
    | zero =>
      intro k J hq1 hk ho hm hA hB
      refine bX10_weights_70 (br_t (by omega) ⟨h.1, fun J2 f2 => ?_⟩)
      have k0 : ∀ b, b ≠ m → J2 b = J b := fun b hb => u_n f2 hb
      have km : ∀ j, j ≠ 9 → j ≠ 20 → J2 m j = I2 m j := fun j h9 hj => by rw [u_o f2 hj, hm j h9, g m (by omega)]
      have ko : ∀ b, b ≠ m → b ≠ m + 1 → b ≠ m + 2 → b ≠ m + 3 → b ≠ m + 4 → b ≠ m + 5 → b ≠ m + 6 → J2 b = I2 b := fun b b0 b1 b2 b3 b4 b5 b6 => by rw [k0 b b0, ho b b0 b2 b3 b4 b5 b6, g b b1]
      refine hq J2 _ _ (o2.X.tr (fun b hb => ko b (by omega) (by omega) (by omega) (by omega) (by omega) (by omega) (by omega))) ?_ ⟨fun _ => ⟨rfl, rfl⟩, fun z => absurd ok z⟩
      refine ⟨⟨by rw [km 1 (by omega) (by omega)]; exact hv2.1.1, hv2.1.2.1, fun i hi => by rw [k0 _ (by omega), ho _ (by omega) (by omega) (by omega) (by omega) (by omega) (by omega)]; exact gw.2.2.1 i hi, wok⟩, ⟨by rw [km 2 (by omega) (by omega)]; exact hv2.2.1.1, hp2⟩, fun j hj => ?_, ⟨?_, fun i hi => ?_⟩, ?_, ⟨?_, fun i x hx => ?_⟩, u_s f2⟩
      · have := hA j (by omega)
        unfold RowH at this ⊢
        rw [k0 _ (by omega), k0 _ (by omega), k0 _ (by omega)]; exact this
      · rw [km 11 (by omega) (by omega)]; exact hv2.2.2.2.1.1
      · rw [ko _ (by omega) (by omega) (by omega) (by omega) (by omega) (by omega) (by omega)]; exact hv2.2.2.2.1.2 i hi
      · rw [km 14 (by omega) (by omega), km 15 (by omega) (by omega)]; exact hv2.2.2.2.2.1
      · rw [km 19 (by omega) (by omega)]; exact hv2.2.2.2.2.2.1.1
      · rw [ko _ (by omega) (by omega) (by omega) (by omega) (by omega) (by omega) (by omega)]; exact hv2.2.2.2.2.2.1.2 i x hx
    | succ q ih =>
      intro k J hq1 hk ho hm hA hB
      have okf := hs.2.2.2.1 k (by omega)
      have gwJ : RfW J m s.n (wts x1 x2 x3) := ⟨by rw [hm 1 (by omega)]; exact gw.1, gw.2.1, fun i hi => by rw [ho _ (by omega) (by omega) (by omega) (by omega) (by omega) (by omega)]; exact gw.2.2.1 i hi, wok⟩
      have gpJ : RfP J m (s.p : Int) := ⟨by rw [hm 2 (by omega)]; exact gp.1, hp2⟩
      have okn := rekL_okQ (n := s.n) (by omega) wok okf
      refine bX10_weights_70 (br_f (by omega) ⟨h.1, bX10_sorts ⟨h.1, fun J1 f1 => ?_⟩⟩)
      have oH1 : offH J J1 m := offH.u f1 (Or.inr (Or.inr ⟨rfl, rfl⟩))
      refine heaps1_spec h (gwJ.oH oH1) (gpJ.oH oH1) (u_s f1) ((hB k (Nat.le_refl _) (by omega)).oH oH1).rek (by omega) (okf.rek wok) (red0_of (red_rek okf.1.2)) (fun J2 oH2 hH hI => ⟨h.1, ?_⟩)
      have hlen := heapsL_len (s.p : Int) ((s.f k).map (rek (wts x1 x2 x3))) []
      rw [List.length_map] at hlen
      have e0 : ([] : List Tm).length = 0 := rfl
      have l60 := okf.2.2
      rw [add1 (by omega)]
      have oHH := oH1.tr oH2
      refine takes_spec h hH (by omega) (by omega) (fun J4 ft oR hR => ?_) (fun nf => absurd ?_ nf)
      · refine ih (k + 1) J4 (by omega) (by omega) (fun b b0 b2 b3 b4 b5 b6 => by rw [oR.1 b b2 b3 b4, oHH.1 b b0 b5 b6]; exact ho b b0 b2 b3 b4 b5 b6) (fun j hj => by rw [oR.1 m (by omega) (by omega) (by omega), oHH.2 j hj]; exact hm j hj) (fun j hj => ?_) (fun j h1 h2 => ?_)
        · by_cases hjk : j = k
          · rw [hjk]; exact hR
          · exact ((hA j (by omega)).oH oHH).oR (rekL_okQ (n := s.n) (by omega) wok (hs.2.2.2.1 j (by omega))).2.2 oR hjk
        · exact ((hB j (by omega) h2).oH oHH).oR (hs.2.2.2.1 j h2).2.2 oR (by omega)
      · exact ⟨okn.2.2, fun t ht => (okn.2.1 t ht).2.1⟩
  exact loop 8 0 J3 rfl (by omega) (fun _ _ _ _ _ _ _ => rfl) (fun _ _ => rfl) (fun j hj => absurd hj (Nat.not_lt_zero _)) (fun j _ hj => by
    have := hv2.2.2.1 j hj
    unfold RowH at this ⊢
    rw [g _ (by omega), g _ (by omega), g _ (by omega)]; exact this)
end RB3
