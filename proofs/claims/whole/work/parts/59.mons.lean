/-! ===== X10: monomials ===== -/
theorem inc_sub_len : ∀ {M L : List Int}, Inc L → Inc M → (∀ x ∈ L, x ∈ M) → L.length ≤ M.length
  | [], [], _, _, _ => Nat.le_refl _
  | [], a :: L, _, _, h => absurd (h a List.mem_cons_self) List.not_mem_nil
  | b :: M, [], _, _, _ => Nat.zero_le _
  | b :: M, a :: L, hL, hM, h => by
    have hL2 := List.pairwise_cons.mp hL
    have hM2 := List.pairwise_cons.mp hM
    have ha := List.mem_cons.mp (h a List.mem_cons_self)
    by_cases e : a = b
    · have := inc_sub_len hL2.2 hM2.2 (fun x hx => by
        rcases List.mem_cons.mp (h x (List.mem_cons_of_mem _ hx)) with q | q
        · have := hL2.1 x hx; omega
        · exact q)
      rw [List.length_cons, List.length_cons]; omega
    · have haM := ha.resolve_left e
      have hba := hM2.1 a haM
      have := inc_sub_len (M := M) hL hM2.2 (fun x hx => by
        rcases List.mem_cons.mp (h x hx) with q | q
        · rcases List.mem_cons.mp hx with q2 | q2
          · omega
          · have := hL2.1 x q2; omega
        · exact q)
      rw [List.length_cons (a := b)]; omega
theorem inc_ext : ∀ {M L : List Int}, Inc L → Inc M → (∀ x, x ∈ L ↔ x ∈ M) → L = M
  | [], [], _, _, _ => rfl
  | [], a :: L, _, _, h => absurd ((h a).mp List.mem_cons_self) List.not_mem_nil
  | b :: M, [], _, _, h => absurd ((h b).mpr List.mem_cons_self) List.not_mem_nil
  | b :: M, a :: L, hL, hM, h => by
    have hL2 := List.pairwise_cons.mp hL
    have hM2 := List.pairwise_cons.mp hM
    have e : a = b := by
      rcases List.mem_cons.mp ((h a).mp List.mem_cons_self) with q | q
      · exact q
      · rcases List.mem_cons.mp ((h b).mpr List.mem_cons_self) with q2 | q2
        · exact q2.symm
        · have := hM2.1 a q; have := hL2.1 b q2; omega
    subst e
    congr 1
    refine inc_ext hL2.2 hM2.2 (fun x => ⟨fun hx => ?_, fun hx => ?_⟩)
    · rcases List.mem_cons.mp ((h x).mp (List.mem_cons_of_mem _ hx)) with q | q
      · have := hL2.1 x hx; omega
      · exact q
    · rcases List.mem_cons.mp ((h x).mpr (List.mem_cons_of_mem _ hx)) with q | q
      · have := hM2.1 x hx; omega
      · exact q
theorem ins_keys {p m v : Int} : ∀ {L : List Tm} {k : Int}, (∃ t ∈ insT p L m v, t.1 = k) ↔ k = m ∨ ∃ t ∈ L, t.1 = k
  | [], k => by
    constructor
    · rintro ⟨t, ht, e⟩
      rw [List.mem_singleton.mp ht] at e
      exact Or.inl e.symm
    · rintro (e | ⟨t, ht, e⟩)
      · exact ⟨(m, v), List.mem_singleton.mpr rfl, e.symm⟩
      · exact absurd ht List.not_mem_nil
  | a :: L, k => by
    have ih := ins_keys (p := p) (m := m) (v := v) (L := L) (k := k)
    have e : insT p (a :: L) m v = if a.1 < m then a :: insT p L m v else if a.1 = m then (a.1, (a.2 + v) % p) :: L else (m, v) :: a :: L := rfl
    have cons : ∀ (b : Tm) (K : List Tm), (∃ t ∈ b :: K, t.1 = k) ↔ b.1 = k ∨ ∃ t ∈ K, t.1 = k := fun b K => by
      constructor
      · rintro ⟨t, ht, e⟩
        rcases List.mem_cons.mp ht with q | q
        · rw [q] at e; exact Or.inl e
        · exact Or.inr ⟨t, q, e⟩
      · rintro (q | ⟨t, ht, q⟩)
        · exact ⟨b, List.mem_cons_self, q⟩
        · exact ⟨t, List.mem_cons_of_mem _ ht, q⟩
    rw [e, cons a L]
    by_cases c1 : a.1 < m
    · rw [if_pos c1, cons a _, ih]
      constructor
      · rintro (q | q | q)
        · exact Or.inr (Or.inl q)
        · exact Or.inl q
        · exact Or.inr (Or.inr q)
      · rintro (q | q | q)
        · exact Or.inr (Or.inl q)
        · exact Or.inl q
        · exact Or.inr (Or.inr q)
    · rw [if_neg c1]
      by_cases c2 : a.1 = m
      · rw [if_pos c2, cons _ L]
        show a.1 = k ∨ _ ↔ _
        constructor
        · exact fun q => Or.inr q
        · rintro (q | q)
          · exact Or.inl (by omega)
          · exact q
      · rw [if_neg c2, cons _ _, cons a L]
        show m = k ∨ _ ↔ _
        constructor
        · rintro (q | q)
          · exact Or.inl q.symm
          · exact Or.inr q
        · rintro (q | q)
          · exact Or.inl q.symm
          · exact Or.inr q
/-- what is laid of the monomials before a, b, c -/
def Kst (n : Int) (w : Nat → Int) (N : Nat) (a b c : Int) (k : Int) : Prop := k ∈ ml n w N ∧ (exx k < a ∨ (exx k = a ∧ (exy k < b ∨ (exy k = b ∧ exz k < c))))
def MonH (I : MI) (m : Nat) (M : List Int) : Prop := I m 28 = (M.length : Int) ∧ ∀ (c : Nat) k, M[c]? = some k → I (m + 11) (3 * c) = exx k ∧ I (m + 11) (3 * c + 1) = exy k ∧ I (m + 11) (3 * c + 2) = exz k
def offN (I I' : MI) (m : Nat) : Prop := (∀ b, b ≠ m → b ≠ m + 5 → b ≠ m + 6 → b ≠ m + 11 → I' b = I b) ∧ ∀ j, j ≠ 9 → j ≠ 28 → I' m j = I m j
theorem offN.tr {I I1 I2 : MI} {m : Nat} (h : offN I I1 m) (h2 : offN I1 I2 m) : offN I I2 m := ⟨fun b x y z u => (h2.1 b x y z u).trans (h.1 b x y z u), fun j x y => (h2.2 j x y).trans (h.2 j x y)⟩
theorem offH.toN {I I' : MI} {m : Nat} (h : offH I I' m) : offN I I' m := ⟨fun b x y z _ => h.1 b x y z, fun j x _ => h.2 j x⟩
theorem HpI.inc {p n : Int} {w : Nat → Int} {H : List Tm} (h : HpI p n w H) : Inc (H.map Prod.fst) := List.pairwise_map.mpr h.1
section RM
variable {G : Gl} {S : Sh} {R : MR} {m : Nat} {n p : Int} {w : Nat → Int} {H L : List Tm}
theorem hp_small {N : Nat} (hI : HpI p n w H) (hN : N ≤ 25) (hl : (ml n w N).length ≤ 165) (hk : ∀ t ∈ H, t.1 ∈ ml n w N) : H.length ≤ 165 := by
  have := inc_sub_len (M := ml n w N) hI.inc (ml_inc (by omega)) (fun x hx => by
    obtain ⟨t, ht, e⟩ := List.mem_map.mp hx
    rw [← e]; exact hk t ht)
  rw [List.length_map] at this; omega
theorem ml_dg {N : Nat} (hw : wtOK w) (hN : N ≤ 25) {k : Int} (h : k ∈ ml n w N) : exx k * w 0 + exy k * w 1 + exz k * w 2 < (N : Int) ∧ exx k < (N : Int) ∧ exy k < (N : Int) ∧ exz k < (N : Int) := by
  have := of_mem (by omega) h
  have e : dg k = dgw w k := this.1
  unfold dgw at e
  omega
theorem heapT_keys {k v : Int} (hv : v ≠ 0) {x : Int} : (∃ t ∈ heapT p H k v, t.1 = x) ↔ x = k ∨ ∃ t ∈ H, t.1 = x := by
  rw [show heapT p H k v = insT p H k v from if_neg hv]; exact ins_keys
theorem laysMonomials_spec {I : MI} {Q : Sh → MI → MR → Prop} {N : Nat} (h : RfS S R m) (hw : RfW I m n w) (hp : RfP I m p) (hN : N ≤ 25) (hl : (ml n w N).length ≤ 165) (hq : ∀ I', offN I I' m → MonH I' m (ml n w N) → Q S I' R) : CV G MX10_laysMonomials [vR m, vI (N : Int)] S I R Q := by
  have hp2 := hp.2
  have hwt := hw.2.2.2
  have w0 := hwt 0 (by omega)
  have w1 := hwt 1 (by omega)
  have w2 := hwt 2 (by omega)
  let T : MI → Int → Int → Int → Prop := fun I1 a b c => offH I I1 m ∧ ∃ H, HpH I1 m H ∧ HpI p n w H ∧ ∀ k, (∃ t ∈ H, t.1 = k) ↔ Kst n w N a b c k
  have fin : ∀ (I1 : MI) (a : Nat), (a : Int) * w 0 ≥ N → T I1 a 0 0 → (∀ I103, I103 = up2 I1 m 28 (I1 m 9) → LX10_laysMonomials_108 G m 0 S I103 R Q) := by
    intro I1 a ha hT I2 e2
    obtain ⟨ho, H, h1, h2, h3⟩ := hT
    have hk : H.map Prod.fst = ml n w N := inc_ext h2.inc (ml_inc (by omega)) (fun x => by
      have e : x ∈ H.map Prod.fst ↔ ∃ t ∈ H, t.1 = x := List.mem_map
      rw [e, h3 x]
      refine ⟨fun q => q.1, fun q => ⟨q, Or.inl ?_⟩⟩
      have := ml_dg hwt hN q
      have r := ex_r x
      have m1 := mul4 (x := exy x) (by omega) w1
      have m2 := mul4 (x := exz x) (by omega) w2
      refine Int.lt_of_not_ge (fun z => ?_)
      have : (a : Int) * w 0 ≤ exx x * w 0 := Int.mul_le_mul_of_nonneg_right z (by omega)
      omega)
    have hlen : H.length = (ml n w N).length := by rw [← hk, List.length_map]
    have o2 : offN I I2 m := ho.toN.tr ⟨fun b b1 _ _ _ => u_n e2 b1, fun j _ j2 => u_o e2 j2⟩
    have h91 : I2 m 9 = (H.length : Int) := by rw [u_o e2 (by omega)]; exact h1.1
    have h28 : I2 m 28 = ((ml n w N).length : Int) := by rw [u_s e2, h1.1, hlen]
    have e6 : I2 (m + 6) = I1 (m + 6) := u_n e2 (by omega)
    have loop : ∀ (q x : Nat) (J : MI), 3 * H.length - x = q → x ≤ 3 * H.length → (∀ b, b ≠ m + 11 → J b = I2 b) → (∀ j, j < x → J (m + 11) j = I2 (m + 6) j) → LX10_laysMonomials_108 G m (x : Int) S J R Q := by
      intro q
      induction q with
      | zero =>
        intro x J hq1 hx ho2 hj
        refine bX10_laysMonomials_108 ⟨h.1, ?_⟩
        rw [ho2 m (by omega), h91, w32_id (by omega)]
        refine br_t (by omega) (hq J (o2.tr ⟨fun b _ _ _ b4 => ho2 b b4, fun j _ _ => by rw [ho2 m (by omega)]⟩) ⟨by rw [ho2 m (by omega)]; exact h28, fun c k hk2 => ?_⟩)
        have hc : c < H.length := by rw [hlen]; exact (List.getElem?_eq_some_iff.mp hk2).1
        rw [← hk, List.getElem?_map, List.getElem?_eq_getElem hc] at hk2
        have ek : H[c].1 = k := Option.some.inj hk2
        have t := h1.2 c H[c] (List.getElem?_eq_getElem hc)
        rw [hj _ (by omega), hj _ (by omega), hj _ (by omega), e6, ← ek]
        exact t.2
      | succ q ih =>
        intro x J hq1 hx ho2 hj
        refine bX10_laysMonomials_108 ⟨h.1, ?_⟩
        rw [ho2 m (by omega), h91, w32_id (by omega), h.2.1.2.1.2.1, h.2.2.1.2.1.2.1, h.2.2.2.2.1.2.1, h.2.1.2.2.1.2.2.1, h.2.2.1.2.2.1.2.2.1, h.2.2.2.2.2.1.2.2.1, show Int.toNat (x : Int) = x by omega, add1 (by omega)]
        refine br_f (by omega) ⟨rfl, ⟨by omega, by omega⟩, rfl, ⟨by omega, by omega⟩, fun J2 f2 => ih (x + 1) J2 (by omega) (by omega) (fun b hb => by rw [u_n f2 hb]; exact ho2 b hb) (fun j hj2 => ?_)⟩
        by_cases hjx : j = x
        · rw [hjx, u_s f2, ho2 (m + 6) (by omega)]
        · rw [u_o f2 hjx]; exact hj j (by omega)
    exact loop (3 * H.length) 0 I2 (by omega) (by omega) (fun _ _ => rfl) (fun j hj => absurd hj (Nat.not_lt_zero _))
  have inner2 : ∀ (q c a b : Nat) (I1 : MI), N + 1 - c = q → c ≤ N → a ≤ 25 → b ≤ 25 → (n ≤ 1 → b = 0) → T I1 a b c → (∀ I2, T I2 a ((b + 1 : Nat) : Int) 0 → LX10_laysMonomials_20 G m (N : Int) (a : Int) ((b + 1 : Nat) : Int) S I2 R Q) → LX10_laysMonomials_46 G m (N : Int) (a : Int) (b : Int) (c : Int) S I1 R Q := by
    intro q
    induction q with
    | zero => intro c a b I1 hq1 hc; omega
    | succ q ih =>
      intro c a b I1 hq1 hc ha hb hnb hT hout
      obtain ⟨ho, H, h1, h2, h3⟩ := hT
      have mB2 := mulw (x := (b : Int)) (c := w 1) (by omega) w1
      have mA := mulw (x := (a : Int)) (c := w 0) (by omega) w0
      have mC := mulw (x := (c : Int)) (c := w 2) (by omega) w2
      refine bX10_laysMonomials_46 ⟨h.1, p10deg h, ?_⟩
      rw [add1 (n := b) (by omega), add1 (n := c) (by omega), ho.2 1 (by omega), hw.1]
      by_cases hn2 : n ≤ 2 ∧ c ≠ 0
      · -- no third variable
        have nx : T I1 a ((b + 1 : Nat) : Int) 0 := by
          refine ⟨ho, H, h1, h2, fun k => (h3 k).trans ?_⟩
          unfold Kst
          refine ⟨fun q => ⟨q.1, ?_⟩, fun q => ⟨q.1, ?_⟩⟩
          · have := q.2; omega
          · have z0 := (of_mem (by omega) q.1).2.1.2 hn2.1
            have := q.2
            have r := ex_r k
            omega
        refine ⟨fun _ => hout I1 nx, fun _ => br_f (by omega) ⟨fun _ => hout I1 nx, fun c0 => absurd c0 (by omega)⟩⟩
      · have ed := v10deg (I := I1) h (hw.oH ho) (a := (a : Int)) (b := (b : Int)) (c := (c : Int)) (by omega) (by omega) (by omega) (by omega) (by omega)
        rw [ed]
        refine ⟨fun cd => hout I1 ⟨ho, H, h1, h2, fun k => (h3 k).trans ?_⟩, fun cd => ?_⟩
        · unfold Kst
          refine ⟨fun q => ⟨q.1, ?_⟩, fun q => ⟨q.1, ?_⟩⟩
          · have := q.2; omega
          · have hd := ml_dg hwt hN q.1
            have r := ex_r k
            by_cases e : exx k = (a : Int) ∧ exy k = (b : Int)
            · rw [e.1, e.2] at hd
              refine Or.inr ⟨e.1, Or.inr ⟨e.2, Int.lt_of_not_ge (fun z => ?_)⟩⟩
              have : (c : Int) * w 2 ≤ exz k * w 2 := Int.mul_le_mul_of_nonneg_right z (by omega)
              omega
            · have := q.2; omega
        · have hx : exx (key w a b c) = (a : Int) := exx_pk (by omega) (by omega) (by omega)
          have hy : exy (key w a b c) = (b : Int) := exy_pk (by omega) (by omega) (by omega)
          have hz : exz (key w a b c) = (c : Int) := exz_pk (by omega) (by omega) (by omega)
          have kk : kOK n w (key w a b c) := ⟨gk_key (by omega) (by omega) (by omega), fun q => by rw [hy]; have := hnb q; omega, fun q => by rw [hz]; omega⟩
          have hm : key w a b c ∈ ml n w N := mem_of hwt kk.1 kk.2 (by
            have e : dg (key w a b c) = dgw w (key w a b c) := kk.1
            rw [e]; unfold dgw; rw [hx, hy, hz]; omega)
          have hsm := hp_small h2 hN hl (fun t ht => ((h3 t.1).mp ⟨t, ht, rfl⟩).1)
          have go : CV G MX10_heaps [vR m, vI 1, vI (a : Int), vI (b : Int), vI (c : Int)] S I1 R (fun S77 I77 R77 => LX10_laysMonomials_46 G m (N : Int) (a : Int) (b : Int) ((c + 1 : Nat) : Int) S77 I77 R77 Q) := by
            have hs := heaps_spec (G := G) (Q := fun S77 I77 R77 => LX10_laysMonomials_46 G m (N : Int) (a : Int) (b : Int) ((c + 1 : Nat) : Int) S77 I77 R77 Q) (v := 1) h (hw.oH ho) (hp.oH ho) h1 h2.1 h2.2.1 h2.2.2 (by omega) kk ⟨by omega, by omega⟩ (fun I2 o2 g2 => by
              refine ih (c + 1) a b I2 (by omega) ?_ ha hb hnb ⟨ho.tr o2, _, g2, h2.ins (by omega) kk ⟨by omega, by omega⟩, fun k => ?_⟩ hout
              · have := ml_dg hwt hN hm
                rw [hz] at this; omega
              · rw [heapT_keys (by omega), h3 k]
                unfold Kst
                have r := ex_r k
                refine ⟨?_, fun q => ?_⟩
                · rintro (q | q)
                  · rw [q, hx, hy, hz]
                    exact ⟨hm, Or.inr ⟨rfl, Or.inr ⟨rfl, by omega⟩⟩⟩
                  · exact ⟨q.1, by have := q.2; omega⟩
                · by_cases e : exx k = (a : Int) ∧ exy k = (b : Int) ∧ exz k = (c : Int)
                  · left
                    have g := (of_mem (by omega) q.1).1
                    rw [key_gk g, e.1, e.2.1, e.2.2]
                  · exact Or.inr ⟨q.1, by have := q.2; omega⟩)
            rw [hx, hy, hz] at hs
            exact hs
          refine ⟨fun _ => go, fun _ => ⟨fun c0 => absurd c0 (by omega), fun _ => go⟩⟩
  have inner1 : ∀ (q b a : Nat) (I1 : MI), N + 1 - b = q → b ≤ N → a ≤ 25 → T I1 a b 0 → (∀ I2, T I2 ((a + 1 : Nat) : Int) 0 0 → LX10_laysMonomials_7 G m (N : Int) ((a + 1 : Nat) : Int) S I2 R Q) → LX10_laysMonomials_20 G m (N : Int) (a : Int) (b : Int) S I1 R Q := by
    intro q
    induction q with
    | zero => intro b a I1 hq1 hb; omega
    | succ q ih =>
      intro b a I1 hq1 hb ha hT hout
      have ho := hT.1
      have mA := mulw (x := (a : Int)) (c := w 0) (by omega) w0
      have mB2 := mulw (x := (b : Int)) (c := w 1) (by omega) w1
      refine bX10_laysMonomials_20 ⟨h.1, p10deg h, ?_⟩
      rw [add1 (n := a) (by omega), ho.2 1 (by omega), hw.1]
      by_cases hn1 : n ≤ 1 ∧ b ≠ 0
      · have nx : T I1 ((a + 1 : Nat) : Int) 0 0 := by
          obtain ⟨ho, H, h1, h2, h3⟩ := hT
          refine ⟨ho, H, h1, h2, fun k => (h3 k).trans ?_⟩
          unfold Kst
          refine ⟨fun q => ⟨q.1, ?_⟩, fun q => ⟨q.1, ?_⟩⟩
          · have := q.2; omega
          · have z0 := (of_mem (by omega) q.1).2.1.1 hn1.1
            have := q.2
            have r := ex_r k
            omega
        refine ⟨fun _ => hout I1 nx, fun _ => br_f (by omega) ⟨fun _ => hout I1 nx, fun c0 => absurd c0 (by omega)⟩⟩
      · have ed := v10deg (I := I1) h (hw.oH ho) (a := (a : Int)) (b := (b : Int)) (c := 0) (by omega) (by omega) (by omega) (by omega) (by omega)
        rw [ed]
        refine ⟨fun cd => hout I1 ?_, fun cd => ?_⟩
        · obtain ⟨ho, H, h1, h2, h3⟩ := hT
          refine ⟨ho, H, h1, h2, fun k => (h3 k).trans ?_⟩
          unfold Kst
          refine ⟨fun q => ⟨q.1, ?_⟩, fun q => ⟨q.1, ?_⟩⟩
          · have := q.2; omega
          · have hd := ml_dg hwt hN q.1
            have r := ex_r k
            by_cases e : exx k = (a : Int)
            · rw [e] at hd
              refine Or.inr ⟨e, Or.inl (Int.lt_of_not_ge (fun z => ?_))⟩
              have : (b : Int) * w 1 ≤ exy k * w 1 := Int.mul_le_mul_of_nonneg_right z (by omega)
              have m2 := mul4 (x := exz k) (by omega) w2
              omega
            · have := q.2; omega
        · have hbN : b < N := by
            have : (b : Int) * 1 ≤ (b : Int) * w 1 := Int.mul_le_mul_of_nonneg_left (by omega) (by omega)
            omega
          have go : LX10_laysMonomials_46 G m (N : Int) (a : Int) (b : Int) 0 S I1 R Q :=
            inner2 (N + 1) 0 a b I1 (by omega) (by omega) ha (by omega) (by omega) hT (fun I2 t2 => ih (b + 1) a I2 (by omega) (by omega) ha t2 hout)
          refine ⟨fun _ => go, fun _ => ⟨fun c0 => absurd c0 (by omega), fun _ => go⟩⟩
  have outer : ∀ (q a : Nat) (I1 : MI), N + 1 - a = q → a ≤ N → T I1 a 0 0 → LX10_laysMonomials_7 G m (N : Int) (a : Int) S I1 R Q := by
    intro q
    induction q with
    | zero => intro a I1 hq1 ha; omega
    | succ q ih =>
      intro a I1 hq1 ha hT
      have ho := hT.1
      have mA := mulw (x := (a : Int)) (c := w 0) (by omega) w0
      refine bX10_laysMonomials_7 ⟨h.1, p10deg h, ?_⟩
      have ed := v10deg (I := I1) h (hw.oH ho) (a := (a : Int)) (b := 0) (c := 0) (by omega) (by omega) (by omega) (by omega) (by omega)
      rw [ed]
      refine ⟨fun cd => fin I1 a (by omega) hT, fun cd => ?_⟩
      have haN : a < N := by
        have : (a : Int) * 1 ≤ (a : Int) * w 0 := Int.mul_le_mul_of_nonneg_left (by omega) (by omega)
        omega
      exact inner1 (N + 1) 0 a I1 (by omega) (by omega) (by omega) hT (fun I2 t2 => ih (a + 1) I2 (by omega) (by omega) t2)
  refine bX10_laysMonomials ⟨h.1, fun I2 e2 => outer (N + 1) 0 I2 (by omega) (by omega) ⟨offH.u e2 (Or.inr (Or.inr ⟨rfl, rfl⟩)), [], ⟨u_s e2, fun j t ht => by cases ht⟩, HpI.nil, fun k => ⟨fun ⟨t, ht, _⟩ => absurd ht List.not_mem_nil, fun q => ?_⟩⟩⟩
  have r := ex_r k
  have := q.2
  omega
end RM
