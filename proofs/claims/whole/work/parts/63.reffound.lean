/-! ===== X10: ideals laid, found ===== -/
/-- cells of the heap, the monomials, the ideal may change -/
def offD (I I' : MI) (m : Nat) : Prop := (∀ b, b ≠ m → b ≠ m + 5 → b ≠ m + 6 → b ≠ m + 11 → b ≠ m + 12 → b ≠ m + 13 → b ≠ m + 14 → I' b = I b) ∧ ∀ j, j ≠ 9 → j ≠ 28 → I' m j = I m j
theorem offD.rf {I : MI} {m : Nat} : offD I I m := ⟨fun _ _ _ _ _ _ _ _ => rfl, fun _ _ _ => rfl⟩
theorem offD.tr {I I1 I2 : MI} {m : Nat} (h : offD I I1 m) (h2 : offD I1 I2 m) : offD I I2 m := ⟨fun b x1 x2 x3 x4 x5 x6 x7 => (h2.1 b x1 x2 x3 x4 x5 x6 x7).trans (h.1 b x1 x2 x3 x4 x5 x6 x7), fun j x y => (h2.2 j x y).trans (h.2 j x y)⟩
theorem offB.toD {I I' : MI} {m : Nat} (h : offB I I' m) : offD I I' m := ⟨fun b _ _ _ _ x5 x6 x7 => h b x5 x6 x7, fun j _ _ => by rw [h m (by omega) (by omega) (by omega)]⟩
theorem offN.toD {I I' : MI} {m : Nat} (h : offN I I' m) : offD I I' m := ⟨fun b x1 x2 x3 x4 _ _ _ => h.1 b x1 x2 x3 x4, h.2⟩
theorem offH.toD {I I' : MI} {m : Nat} (h : offH I I' m) : offD I I' m := h.toN.toD
theorem RfW.oD {I I' : MI} {m : Nat} {n : Int} {w : Nat → Int} (h : RfW I m n w) (ho : offD I I' m) : RfW I' m n w := ⟨by rw [ho.2 1 (by omega) (by omega)]; exact h.1, h.2.1, fun i hi => by rw [ho.1 (m + 1) (by omega) (by omega) (by omega) (by omega) (by omega) (by omega) (by omega)]; exact h.2.2.1 i hi, h.2.2.2⟩
theorem RfP.oD {I I' : MI} {m : Nat} {p : Int} (h : RfP I m p) (ho : offD I I' m) : RfP I' m p := ⟨by rw [ho.2 2 (by omega) (by omega)]; exact h.1, h.2⟩
theorem RowH.oD {I I' : MI} {m r : Nat} {L : List Tm} (h : RowH I m r L) (ho : offD I I' m) : RowH I' m r L := by
  unfold RowH
  rw [ho.1 (m + 2) (by omega) (by omega) (by omega) (by omega) (by omega) (by omega) (by omega), ho.1 (m + 3) (by omega) (by omega) (by omega) (by omega) (by omega) (by omega) (by omega), ho.1 (m + 4) (by omega) (by omega) (by omega) (by omega) (by omega) (by omega) (by omega)]
  exact h
/-- an ideal is laid: U below N -/
def LdR (I : MI) (m : Nat) (p n : Int) (w : Nat → Int) (N : Nat) (U : Vc → Prop) : Prop := MonH I m (ml n w N) ∧ EchR I m p (ml n w N).length U
section RK
variable {G : Gl} {S : Sh} {R : MR} {m : Nat} {n : Int} {pr : Nat} {w : Nat → Int} {N : Nat}
theorem ml_120 (hn : 1 ≤ n ∧ n ≤ 3) (hw : wtOK w) (hN : (N : Int) ≤ bd n) : (ml n w N).length ≤ 120 := by
  have h1 := (ml_bd hn hw).1
  have hb := bd_n n
  have := ml_le (n := n) (w := w) (N := N) (D := (bd n).toNat) (by omega)
  omega
theorem beginsIdeal_spec {I : MI} {Q : Sh → MI → MR → Prop} (h : RfS S R m) (hw : RfW I m n w) (hp : RfP I m (pr : Int)) (hN : (N : Int) ≤ bd n)
    (hq : ∀ I', offD I I' m → LdR I' m (pr : Int) n w N (fun x => ∀ c, c < (ml n w N).length → (pr : Int) ∣ x c) → Q S I' R) : CV G MX10_beginsIdeal [vR m, vI (N : Int)] S I R Q := by
  have hl := ml_120 hw.2.1 hw.2.2.2 hN
  have hb := bd_n n
  refine bX10_beginsIdeal ⟨h.1, laysMonomials_spec h hw hp (by omega) (by omega) (fun I1 o1 hM => ?_)⟩
  have loop : ∀ (q c : Nat) (J : MI), (ml n w N).length - c = q → c ≤ (ml n w N).length → off1 I1 J (m + 13) → (∀ j, j < c → J (m + 13) j = 0) → LX10_beginsIdeal_7 G m (c : Int) S J R Q := by
    intro q
    induction q with
    | zero =>
      intro c J hq1 hc ho hj
      refine bX10_beginsIdeal_7 ⟨h.1, ?_⟩
      rw [ho m (by omega), hM.1]
      refine br_t (by omega) (hq J (o1.toD.tr ⟨fun b _ _ _ _ _ x6 _ => ho b x6, fun j _ _ => by rw [ho m (by omega)]⟩) ⟨hM.o (by rw [ho m (by omega)]) (ho _ (by omega)), ech_nil (fun l hl2 hk => hk (hj l (by omega))), fun l hl2 hk => absurd (hj l (by omega)) hk, fun l hl2 => Or.inl (hj l (by omega))⟩)
    | succ q ih =>
      intro c J hq1 hc ho hj
      refine bX10_beginsIdeal_7 ⟨h.1, ?_⟩
      rw [ho m (by omega), hM.1, h.2.1.2.2.2.1, h.2.2.1.2.2.2.1, h.2.2.2.2.2.2.1, show Int.toNat (c : Int) = c by omega, add1 (by omega)]
      refine br_f (by omega) ⟨rfl, ⟨by omega, by omega⟩, fun J2 f2 => ih (c + 1) J2 (by omega) (by omega) (fun b hb2 => by rw [u_n f2 hb2]; exact ho b hb2) (fun j hj2 => ?_)⟩
      by_cases hjc : j = c
      · rw [hjc, u_s f2]
      · rw [u_o f2 hjc]; exact hj j (by omega)
  exact loop (ml n w N).length 0 I1 (by omega) (by omega) (fun _ _ => rfl) (fun j hj => absurd hj (Nat.not_lt_zero _))
theorem v10has {set : Int} {k : Nat} (hs : 0 ≤ set ∧ set < 256) (hk : k < 8) : vX10_has m set (k : Int) = if bitI set k = 1 then 1 else 0 := by
  unfold vX10_has
  rw [vbit (by omega) (by omega)]
  by_cases c : bitI set k = 1
  · rw [if_neg (fun q => q c), if_pos c]
  · rw [if_pos c, if_neg c]
theorem laysIdeal_spec {I : MI} {Q : Sh → MI → MR → Prop} {f : Nat → List Tm} {set : Int} (h : RfS S R m) (hw : RfW I m n w) (hp : RfP I m (pr : Int)) (pp : isP pr) (hN : (N : Int) ≤ bd n) (h1 : 1 ≤ N) (hs : 0 ≤ set ∧ set < 256) (hf : ∀ k, k < 8 → RowH I m k (f k) ∧ okQ (pr : Int) n w (f k))
    (hq : ∀ I', offD I I' m → LdR I' m (pr : Int) n w N (GenU (pr : Int) n w (Fs f set 8) N) → Q S I' R) : CV G MX10_laysIdeal [vR m, vI set, vI (N : Int)] S I R Q := by
  have hl := ml_120 hw.2.1 hw.2.2.2 hN
  have hb := bd_n n
  have hGS : Sub (pr : Int) (ml n w N).length (GenU (pr : Int) n w (Fs f set 8) N) := spn_sub
  refine bX10_laysIdeal ⟨h.1, beginsIdeal_spec h hw hp hN (fun I1 o1 hL1 => ?_)⟩
  have loop : ∀ (q k : Nat) (J : MI) (U : Vc → Prop), 8 - k = q → k ≤ 8 → offD I J m → LdR J m (pr : Int) n w N U → (∀ y, U y → GenU (pr : Int) n w (Fs f set 8) N y) → (∀ j, j < k → bitI set j = 1 → ∀ t ∈ ml n w N, U (vecM (ml n w N) (shf t (cf (f j))))) → LX10_laysIdeal_7 G m set (k : Int) S J R Q := by
    intro q
    induction q with
    | zero =>
      intro k J U hq1 hk ho hL hU hg
      refine bX10_laysIdeal_7 (br_t (by omega) ?_)
      have e : U = GenU (pr : Int) n w (Fs f set 8) N := by
        funext y
        refine propext ⟨hU y, fun hy => spn_le hL.2.1.sub (fun t ht => ?_) hy⟩
        obtain ⟨g, t2, ⟨j, hj, hb2, eg⟩, ht2, et⟩ := ht
        rw [et, eg]; exact hg j (by omega) hb2 t2 ht2
      rw [e] at hL
      exact hq J ho hL
    | succ q ih =>
      intro k J U hq1 hk ho hL hU hg
      have hfk := hf k (by omega)
      refine bX10_laysIdeal_7 (br_f (by omega) ⟨h.1, ?_⟩)
      rw [v10has hs (by omega), add1 (by omega)]
      refine ⟨fun c => ?_, fun c => ?_⟩
      · have c' : ¬ bitI set k = 1 := fun z => by rw [if_pos z] at c; omega
        refine ih (k + 1) J U (by omega) (by omega) ho hL hU (fun j hj hb2 => ?_)
        by_cases hjk : j = k
        · rw [hjk] at hb2; exact absurd hb2 c'
        · exact hg j (by omega) hb2
      · have c' : bitI set k = 1 := Decidable.of_not_not (fun z => c (by rw [if_neg z]))
        refine addsAll_spec h (hw.oD ho) (hp.oD ho) pp (by omega) h1 hl hL.1 hL.2 (hfk.1.oD ho) (by omega) hfk.2 (fun I2 U2 o2 hE2 s1 s2 s3 => ?_)
        refine ih (k + 1) I2 U2 (by omega) (by omega) (ho.tr o2.toD) ⟨hL.1.oB o2, hE2⟩ (s3 _ hGS hU (fun t ht => spn_in ⟨f k, t, ⟨k, by omega, c', rfl⟩, ht, rfl⟩)) (fun j hj hb2 t ht => ?_)
        by_cases hjk : j = k
        · rw [hjk]; exact s2 t ht
        · exact s1 _ (hg j (by omega) hb2 t ht)
  refine loop 8 0 I1 _ rfl (by omega) o1 hL1 (fun y hy => ?_) (fun j hj => absurd hj (Nat.not_lt_zero _))
  exact hGS.2.2.2 _ _ (fun j hj => by show (0 : Int) % (pr : Int) = y j % (pr : Int); rw [emz.mpr (hy j hj)]; exact Int.zero_emod _) hGS.1
variable {F : List Tm → Prop}
theorem LdR.led {I : MI} (h2 : (2 : Int) ≤ (pr : Int)) (hL : LdR I m (pr : Int) n w N (GenU (pr : Int) n w F N)) {c : Nat} (hc : c < (ml n w N).length) : I (m + 13) c ≠ 0 ↔ led (pr : Int) n w F N c := hL.2.1.lead h2 hc
theorem isDivider_spec {I : MI} {Q : Sh → MI → MR → Int → Prop} {M : List Int} {a c : Nat} (h : RfS S R m) (hM : MonH I m M) (hl : M.length ≤ 165) (ha : a < M.length) (hc : c < M.length) (h1 : dvs (M.getD a 0) (M.getD c 0) → Q S I R 1) (h0 : ¬ dvs (M.getD a 0) (M.getD c 0) → Q S I R 0) : CI G MX10_isDivider [vR m, vI (a : Int), vI (c : Int)] S I R Q := by
  have ta := hM.2 a (M.getD a 0) (by rw [getDl ha, List.getElem?_eq_getElem ha])
  have tc := hM.2 c (M.getD c 0) (by rw [getDl hc, List.getElem?_eq_getElem hc])
  have step : ∀ v : Nat, v < 3 → (I (m + 11) (3 * a + v) ≤ I (m + 11) (3 * c + v) → LX10_isDivider_2 G m (a : Int) (c : Int) ((v + 1 : Nat) : Int) S I R Q) → (¬ I (m + 11) (3 * a + v) ≤ I (m + 11) (3 * c + v) → Q S I R 0) → LX10_isDivider_2 G m (a : Int) (c : Int) (v : Int) S I R Q := by
    intro v hv k1 k2
    refine bX10_isDivider_2 (br_f (by omega) ⟨h.1, ?_⟩)
    rw [h.2.1.2.2.1.2.2.1, h.2.2.1.2.2.1.2.2.1, h.2.2.2.2.2.1.2.2.1, w32_id (x := 3 * (a : Int)) (by omega), w32_id (x := 3 * (c : Int)) (by omega), w32_id (x := 3 * (a : Int) + (v : Int)) (by omega), w32_id (x := 3 * (c : Int) + (v : Int)) (by omega), show Int.toNat (3 * (a : Int) + (v : Int)) = 3 * a + v by omega, show Int.toNat (3 * (c : Int) + (v : Int)) = 3 * c + v by omega, add1 (by omega)]
    exact ⟨rfl, ⟨by omega, by omega⟩, ⟨by omega, by omega⟩, k1, k2⟩
  have hd : dvs (M.getD a 0) (M.getD c 0) ↔ I (m + 11) (3 * a) ≤ I (m + 11) (3 * c) ∧ I (m + 11) (3 * a + 1) ≤ I (m + 11) (3 * c + 1) ∧ I (m + 11) (3 * a + 2) ≤ I (m + 11) (3 * c + 2) := by
    unfold dvs
    rw [ta.1, ta.2.1, ta.2.2, tc.1, tc.2.1, tc.2.2]
  refine bX10_isDivider (step 0 (by omega) (fun x0 => step 1 (by omega) (fun x1 => step 2 (by omega) (fun x2 => ?_) (fun x2 => h0 (fun q => x2 (hd.mp q).2.2))) (fun x1 => h0 (fun q => x1 (hd.mp q).2.1))) (fun x0 => h0 (fun q => x0 (hd.mp q).1)))
  exact bX10_isDivider_2 (br_t (by omega) (h1 (hd.mpr ⟨x0, x1, x2⟩)))
theorem isCorner_spec {I : MI} {Q : Sh → MI → MR → Int → Prop} {c : Nat} (h : RfS S R m) (hw : RfW I m n w) (h2 : (2 : Int) ≤ (pr : Int)) (hN : (N : Int) ≤ bd n) (hF : ∀ f, F f → okQ (pr : Int) n w f) (hL : LdR I m (pr : Int) n w N (GenU (pr : Int) n w F N)) (hc : c < (ml n w N).length)
    (hq : ∀ x, (x ≠ 0 ↔ led (pr : Int) n w F N c ∧ ¬ prd (pr : Int) n w F N c) → Q S I R x) : CI G MX10_isCorner [vR m, vI (c : Int)] S I R Q := by
  have hl := ml_120 hw.2.1 hw.2.2.2 hN
  have hb := bd_n n
  have pi := prd_iff hw.2.2.2 (D := N) (by omega) hw.2.1 hF hc
  have loop : ∀ (q a : Nat), (ml n w N).length - a = q → a ≤ (ml n w N).length → (∀ j, j < a → j ≠ c → led (pr : Int) n w F N j → ¬ dvs ((ml n w N).getD j 0) ((ml n w N).getD c 0)) → LX10_isCorner_2 G m (c : Int) (a : Int) S I R Q := by
    intro q
    induction q with
    | zero =>
      intro a hq1 ha hno
      refine bX10_isCorner_2 ⟨h.1, ?_⟩
      rw [hL.1.1, h.2.1.2.2.2.1, h.2.2.1.2.2.2.1, h.2.2.2.2.2.2.1, show Int.toNat (c : Int) = c by omega]
      refine br_t (by omega) ⟨rfl, ⟨by omega, by omega⟩, hL.2.2.2 c hc, hq _ ((hL.led h2 hc).trans ⟨fun q => ⟨q, fun z => ?_⟩, fun q => q.1⟩)⟩
      obtain ⟨a2, ha2, hne, hl2, hd2⟩ := pi.mp z
      exact hno a2 (by omega) hne hl2 hd2
    | succ q ih =>
      intro a hq1 ha hno
      have hal : a < (ml n w N).length := by omega
      refine bX10_isCorner_2 ⟨h.1, ?_⟩
      rw [hL.1.1, h.2.1.2.2.2.1, h.2.2.1.2.2.2.1, h.2.2.2.2.2.2.1, show Int.toNat (a : Int) = a by omega, add1 (by omega)]
      have nx : (a ≠ c → led (pr : Int) n w F N a → ¬ dvs ((ml n w N).getD a 0) ((ml n w N).getD c 0)) → LX10_isCorner_2 G m (c : Int) ((a + 1 : Nat) : Int) S I R Q := fun z => ih (a + 1) (by omega) (by omega) (fun j hj => by
        by_cases e : j = a
        · rw [e]; exact z
        · exact hno j (by omega))
      refine br_f (by omega) ⟨fun e => nx (fun z => absurd (show a = c by omega) z), fun e => ⟨rfl, ⟨by omega, by omega⟩, fun k0 => nx (fun _ z => absurd k0 ((hL.led h2 hal).mpr z)), fun k0 => isDivider_spec h hL.1 (by omega) hal hc (fun d => br_f (by decide) (hq 0 ⟨fun z => absurd rfl z, fun z => ?_⟩)) (fun d => br_t rfl (nx (fun _ _ => d)))⟩⟩
      exact absurd (pi.mpr ⟨a, hal, fun q => e (by omega), (hL.led h2 hal).mp k0, d⟩) z.2
  exact bX10_isCorner (loop (ml n w N).length 0 (by omega) (by omega) (fun j hj => absurd hj (Nat.not_lt_zero _)))
/-- the value of found: how many for -1, the place of the i-th else -/
def fdR (kd : Nat → Int) (k : Int) (W : Nat) (i : Int) : Int := if i = -1 then cnt kd k 0 W else fnd kd k W 0 i
theorem found_spec {I : MI} {Q : Sh → MI → MR → Int → Prop} {cn : Int} {i : Int} (h : RfS S R m) (hw : RfW I m n w) (h2 : (2 : Int) ≤ (pr : Int)) (hN : (N : Int) ≤ bd n) (hF : ∀ f, F f → okQ (pr : Int) n w f) (hL : LdR I m (pr : Int) n w N (GenU (pr : Int) n w F N)) (hcn : cn = 0 ∨ cn = 1) (hi : -1 ≤ i ∧ i < 2147483648)
    (hq : ∀ x, (∀ kd, KdU (pr : Int) n w F N kd → x = fdR kd (2 * cn) (ml n w N).length i) → (i ≠ -1 → x = -1 ∨ ∃ c : Nat, c < (ml n w N).length ∧ x = (c : Int)) → Q S I R x) : CI G MX10_found [vR m, vI cn, vI i] S I R Q := by
  have hl := ml_120 hw.2.1 hw.2.2.2 hN
  have loop : ∀ (q c : Nat) (x : Int), (ml n w N).length - c = q → c ≤ (ml n w N).length → 0 ≤ x → x ≤ (c : Int) → (∀ kd, KdU (pr : Int) n w F N kd → x = cnt kd (2 * cn) 0 c ∧ (i ≠ -1 → x ≤ i ∧ fdR kd (2 * cn) (ml n w N).length i = fnd kd (2 * cn) ((ml n w N).length - c) c (i - x))) → LX10_found_5 G m cn i x (c : Int) S I R Q := by
    intro q
    induction q with
    | zero =>
      intro c x hq1 hc hx0 hx hkd
      refine bX10_found_5 ⟨h.1, ?_⟩
      rw [hL.1.1]
      refine br_t (by omega) ⟨fun e => hq _ (fun kd hk => ?_) (fun _ => Or.inl rfl), fun e => hq _ (fun kd hk => ?_) (fun z => absurd z e)⟩
      · rw [((hkd kd hk).2 e).2, show (ml n w N).length - c = 0 by omega]; rfl
      · have e2 : i = -1 := Decidable.not_not.mp e
        unfold fdR
        rw [if_pos e2, (hkd kd hk).1, show c = (ml n w N).length by omega]
    | succ q ih =>
      intro c x hq1 hc hx0 hx hkd
      have hcl : c < (ml n w N).length := by omega
      have hle := hL.led h2 hcl
      have e1 : (ml n w N).length - c = ((ml n w N).length - (c + 1)) + 1 := by omega
      -- this place is none of them
      have no : (∀ kd, KdU (pr : Int) n w F N kd → kd c ≠ 2 * cn) → LX10_found_5 G m cn i x ((c + 1 : Nat) : Int) S I R Q := fun z => ih (c + 1) x (by omega) (by omega) hx0 (by omega) (fun kd hk => by
        have a := hkd kd hk
        have b := z kd hk
        refine ⟨?_, fun hi2 => ⟨(a.2 hi2).1, ?_⟩⟩
        · rw [cnt, Nat.zero_add, if_neg b, Int.add_zero]; exact a.1
        · rw [(a.2 hi2).2, e1, fnd, if_neg b])
      -- it is one
      have yes : (∀ kd, KdU (pr : Int) n w F N kd → kd c = 2 * cn) → LX10_found_43 G m cn i x (c : Int) S I R Q := fun z => by
        refine bX10_found_43 ⟨fun e => ?_, fun e => hq _ (fun kd hk => ?_) (fun _ => Or.inr ⟨c, hcl, rfl⟩)⟩
        · rw [w32_id (x := x + 1) (by omega), add1 (by omega)]
          refine ih (c + 1) (x + 1) (by omega) (by omega) (by omega) (by omega) (fun kd hk => ?_)
          have a := hkd kd hk
          have b := z kd hk
          refine ⟨?_, fun hi2 => ?_⟩
          · rw [cnt, Nat.zero_add, if_pos b, ← a.1]
          · have a2 := a.2 hi2
            refine ⟨by omega, ?_⟩
            rw [a2.2, e1, fnd, if_pos b, if_neg (by omega), w32_id (by omega)]
            congr 1; omega
        · have e2 : x = i := Decidable.not_not.mp e
          have a := (hkd kd hk).2 (by omega)
          rw [a.2, e1, fnd, if_pos (z kd hk), if_pos (by omega)]
      refine bX10_found_5 ⟨h.1, ?_⟩
      rw [hL.1.1, h.2.1.2.2.2.1, h.2.2.1.2.2.2.1, h.2.2.2.2.2.2.1, show Int.toNat (c : Int) = c by omega, add1 (n := c) (by omega)]
      refine br_f (by omega) ⟨fun c0 => ⟨rfl, ⟨by omega, by omega⟩, fun k0 => yes (fun kd hk => ?_), fun k0 => no (fun kd hk => ?_)⟩, fun c0 => isCorner_spec h hw h2 hN hF hL hcl (fun y hy => ⟨fun y0 => yes (fun kd hk => ?_), fun y0 => no (fun kd hk => ?_)⟩)⟩
      · have k := hk c hcl
        rw [c0]
        refine Decidable.of_not_not (fun q => ?_)
        exact (hle.mpr (k.2.1.mp (by omega))) k0
      · have k := hk c hcl
        rw [c0]
        have := k.2.1.mpr (hle.mp k0)
        omega
      · have k := hk c hcl
        have hy1 := hy.mp y0
        have k1 := k.2.1.mpr hy1.1
        have k2 : kd c ≠ 1 := fun z => hy1.2 (k.2.2.mp z)
        have k3 := k.1
        rcases hcn with q | q
        · exact absurd q c0
        · rw [q]; omega
      · have k := hk c hcl
        have y1 : ¬ (led (pr : Int) n w F N c ∧ ¬ prd (pr : Int) n w F N c) := fun z => y0 (hy.mpr z)
        rcases hcn with q | q
        · exact absurd q c0
        · rw [q]
          intro z
          refine y1 ⟨k.2.1.mp (by omega), fun z2 => ?_⟩
          have := k.2.2.mpr z2
          omega
  refine bX10_found ?_
  exact loop (ml n w N).length 0 0 (by omega) (by omega) (by omega) (by omega) (fun kd hk => ⟨rfl, fun hi2 => ⟨by omega, by unfold fdR; rw [if_neg hi2, Nat.sub_zero, Int.sub_zero]⟩⟩)
end RK
