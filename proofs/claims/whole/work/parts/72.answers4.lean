/-! ===== X10: part, make ===== -/
section RB4
variable {G : Gl} {S : Sh} {R : MR} {m : Nat} {s : Ms} {I I' : MI} {Q : Sh → MI → MR → Int → Prop}
theorem ref_part (h : RfS S R m) (hs : MsOK s) (hv : RefV I m s) {x1 x2 x3 : Int} (r1 : InR x1) (r2 : InR x2) (r3 : InR x3) (hq : ∀ I' x s', offX I I' m (m + 14) → RefV I' m s' → partA s x1 x2 x3 x s' → Q S I' R x) : CI G MX10_part [vR m, vI x1, vI x2, vI x3] S I R Q := by
  refine bX10_part ⟨h.1, fun I2 e2 => ⟨p10slot h r1, ?_⟩⟩
  have o2 : offS I I2 m := offS.u e2 (Or.inl rfl)
  have hv2 := hv.oS hs o2
  have v1 := v10slot (m := m) r1
  have v3 := v10slot (m := m) r3
  have hn := hs.2.1
  have bad : ¬ (slt x1 ∧ slt x3 ∧ (x2 = 3 ∨ (0 ≤ x2 ∧ x2 < s.n))) → Q S I2 R (-1) := fun c => hq I2 _ s o2.X hv2 ⟨fun z => absurd z c, fun _ => ⟨rfl, rfl⟩⟩
  refine ⟨fun c => bad (fun z => (v1.mpr z.1) c), fun c1 => ⟨p10slot h r3, fun c => bad (fun z => (v3.mpr z.2.1) c), fun c3 => ?_⟩⟩
  have h1 := v1.mp c1
  have h3 := v3.mp c3
  have ea : x1 = ((x1.toNat : Nat) : Int) := by omega
  have ec : x3 = ((x3.toNat : Nat) : Int) := by omega
  have okf := hs.2.2.2.1 x1.toNat (by omega)
  have hL := hv2.2.2.1 x1.toNat (by omega)
  have fin : ∀ (J : MI) (L : List Tm), offH I2 J m → HpH J m L → okQ (s.p : Int) s.n s.w L → (∀ I', offX I I' m (m + 14) → RefV I' m (put s x3.toNat L) → Q S I' R (L.length : Int)) → LX10_part_64 G m ((x3.toNat : Nat) : Int) S J R Q := by
    intro J L oJ hH okL hQ
    have hvJ := hv2.oS hs oJ.toS
    refine bX10_part_64 ⟨h.1, takes_spec h hH (by omega) (by have := okL.2.2; omega) (fun J2 ft oR hR => br_f (by decide) ⟨h.1, ?_⟩) (fun nf => absurd ?_ nf)⟩
    · rw [nz_id okL.1.2] at hR
      rw [h.2.1.1.2.1, h.2.2.1.1.2.1, h.2.2.2.1.2.1, show Int.toNat ((x3.toNat : Nat) : Int) = x3.toNat by omega, hR.1]
      exact ⟨rfl, ⟨by omega, by omega⟩, hQ J2 (o2.X.tr (oJ.toS.X.tr oR.X)) (hvJ.put hs oR (by omega) hR)⟩
    · rw [nz_id okL.1.2]
      exact ⟨okL.2.2, fun t ht => (okL.2.1 t ht).2.1⟩
  have go : (x2 = 3 ∨ (0 ≤ x2 ∧ x2 < s.n)) → LX10_part_45 G m ((x1.toNat : Nat) : Int) x2 ((x3.toNat : Nat) : Int) S I2 R Q := by
    intro hc
    refine bX10_part_45 ⟨fun c => ⟨h.1, ?_⟩, fun c => ⟨h.1, heapsLow_spec h hv2.1 hv2.2.1 hL (by omega) okf (fun J oJ hH => fin J _ oJ hH (lowT_ok okf) (fun I' o g => hq I' _ _ o g ⟨fun _ => ?_, fun z => absurd ⟨h1, h3, hc⟩ z⟩))⟩⟩
    · have hx : 0 ≤ x2 ∧ x2 < s.n := hc.resolve_left c
      have eb : x2 = ((x2.toNat : Nat) : Int) := by omega
      have hb : ((x2.toNat : Nat) : Int) < s.n := by omega
      have hp := heapsPart_spec (G := G) (v := x2.toNat) (Q := fun S61 I61 R61 => LX10_part_64 G m ((x3.toNat : Nat) : Int) S61 I61 R61 Q) h hv2.1 hv2.2.1 hL (by omega) okf hb (fun J oJ hH => fin J _ oJ hH (derL_ok (by have := hs.1.1.1; omega) hs.2.2.1 hn hb okf) (fun I' o g => hq I' _ _ o g ⟨fun _ => ?_, fun z => absurd ⟨h1, h3, hc⟩ z⟩))
      · rw [← eb] at hp; exact hp
      · rw [if_neg c, ← eb]; exact ⟨rfl, rfl⟩
    · rw [if_pos (Decidable.not_not.mp c)]; exact ⟨rfl, rfl⟩
  rw [w64_id (by rw [hv2.1.1]; omega), hv2.1.1]
  have v2 := v10in (m := m) r2 (lo := 0) (hi := s.n - 1) (by omega) (by omega)
  rw [← ea, ← ec] at go
  refine ⟨fun c => go (Or.inl c), fun c => ⟨fun c2 => go (Or.inr (by have := v2.mp c2; omega)), fun c2 => bad (fun z => ?_)⟩⟩
  rcases z.2.2 with q | q
  · exact c q
  · exact c2 (v2.mpr (by omega))
theorem multiplies_spec {Q : Sh → MI → MR → Prop} (h : RfS S R m) (hs : MsOK s) (hv : RefV I m s) {a b : Nat} (ha : a < 8) (hb : b < 8) (h9 : I m 9 = 0) (hq : ∀ I', offH I I' m → HpH I' m (heapsL (s.p : Int) [] (prdR (s.p : Int) (s.f a) (s.f b))) → Q S I' R) : CV G MX10_multiplies [vR m, vI (a : Int), vI (b : Int)] S I R Q := by
  have hp2 := hv.2.1.2
  have oka := hs.2.2.2.1 a ha
  have okb := hs.2.2.2.1 b hb
  have l1 := oka.2.2
  have l2 := okb.2.2
  have loop : ∀ (q j : Nat) (J : MI), (s.f a).length - j = q → j ≤ (s.f a).length → offH I J m → HpH J m (heapsL (s.p : Int) [] (prdR (s.p : Int) ((s.f a).take j) (s.f b))) → HpI (s.p : Int) s.n s.w (heapsL (s.p : Int) [] (prdR (s.p : Int) ((s.f a).take j) (s.f b))) → LX10_multiplies_2 G m (a : Int) (b : Int) (j : Int) S J R Q := by
    intro q
    induction q with
    | zero =>
      intro j J hq1 hj ho hH hI
      have hA := (hv.2.2.1 a ha).oH ho
      refine bX10_multiplies_2 ⟨h.1, ?_⟩
      rw [h.2.1.1.2.1, h.2.2.1.1.2.1, h.2.2.2.1.2.1, show Int.toNat (a : Int) = a by omega, hA.1]
      rw [List.take_of_length_le (by omega)] at hH
      exact ⟨rfl, ⟨by omega, by omega⟩, br_t (by omega) (hq J ho hH)⟩
    | succ q ih =>
      intro j J hq1 hj ho hH hI
      have hjl : j < (s.f a).length := by omega
      have hA := (hv.2.2.1 a ha).oH ho
      have hB := (hv.2.2.1 b hb).oH ho
      have t := hA.2 j _ (List.getElem?_eq_getElem hjl)
      have pw := hA.pow h (show a < 300 by omega) l1 hjl
      have kk := oka.2.1 _ (List.getElem_mem hjl)
      have rd := oka.1.2 _ (List.getElem_mem hjl)
      have kr := kk.r
      have vk : VK s.n s.w (s.f a)[j].1 33 := ⟨kk.2.2.1, kk.2.2.2, by omega, by omega, by omega⟩
      have hlen := heapsL_len (s.p : Int) (prdR (s.p : Int) ((s.f a).take j) (s.f b)) []
      rw [prdR_len, List.length_take] at hlen
      have e0 : ([] : List Tm).length = 0 := rfl
      have hm : min j (s.f a).length * (s.f b).length ≤ 59 * 60 := Nat.mul_le_mul (by omega) l2
      refine bX10_multiplies_2 ⟨h.1, ?_⟩
      rw [h.2.1.1.2.1, h.2.2.1.1.2.1, h.2.2.2.1.2.1, h.2.1.1.2.2.1, h.2.2.1.1.2.2.1, h.2.2.2.1.2.2.1, show Int.toNat (a : Int) = a by omega, hA.1, v10at (show a < 300 by omega) (show j < 60 by omega), show Int.toNat ((60 * a + j : Nat) : Int) = 60 * a + j by omega, t.1, pw.1, pw.2.1, pw.2.2, add1 (by omega)]
      refine ⟨rfl, ⟨by omega, by omega⟩, br_f (by omega) ⟨rfl, ⟨by omega, by omega⟩, p10pow (v := 0) h (by omega) (by omega) (by omega), p10pow (v := 1) h (by omega) (by omega) (by omega), p10pow (v := 2) h (by omega) (by omega) (by omega), ?_⟩⟩
      refine heapsRow_spec h (hv.1.oH ho) (hv.2.1.oH ho) hH hI hB (by omega) okb.toR (red0_of okb.1.2) ⟨by omega, rd.2⟩ vk (by omega) (fun J2 o2 g1 g2 => ?_)
      have es : heapsL (s.p : Int) (heapsL (s.p : Int) [] (prdR (s.p : Int) ((s.f a).take j) (s.f b))) ((s.f b).map (tmT (s.p : Int) (s.f a)[j].2 ((s.f a)[j].1 - 262143))) = heapsL (s.p : Int) [] (prdR (s.p : Int) ((s.f a).take (j + 1)) (s.f b)) := by
        rw [take_succ_get hjl, prdR_app, ← heapsL_app]
        show _ = heapsL (s.p : Int) [] (prdR (s.p : Int) ((s.f a).take j) (s.f b) ++ ((s.f b).map (tmT (s.p : Int) (s.f a)[j].2 ((s.f a)[j].1 - 262143)) ++ []))
        rw [List.append_nil]
      rw [es] at g1 g2
      exact ih (j + 1) J2 (by omega) (by omega) (ho.tr o2) g1 g2
  exact bX10_multiplies (loop (s.f a).length 0 I (by omega) (by omega) offH.rf ⟨h9, fun j t ht => by cases ht⟩ HpI.nil)
theorem ref_make (h : RfS S R m) (hs : MsOK s) (hv : RefV I m s) {x1 x2 x3 x4 : Int} (r1 : InR x1) (r2 : InR x2) (r3 : InR x3) (r4 : InR x4) (hq : ∀ I' x s', offX I I' m (m + 14) → RefV I' m s' → makeA s x1 x2 x3 x4 x s' → Q S I' R x) : CI G MX10_make [vR m, vI x1, vI x2, vI x3, vI x4] S I R Q := by
  refine bX10_make ⟨h.1, fun I2 e2 => ?_⟩
  have o2 : offS I I2 m := offS.u e2 (Or.inl rfl)
  have hv2 := hv.oS hs o2
  have v1 := v10in (m := m) r1 (lo := 0) (hi := 2) (by omega) (by omega)
  have v2 := v10slot (m := m) r2
  have v3 := v10slot (m := m) r3
  have v4 := v10slot (m := m) r4
  have hp2 := hv2.2.1.2
  have bad : ¬ ((0 ≤ x1 ∧ x1 ≤ 2) ∧ slt x2 ∧ slt x3 ∧ slt x4) → Q S I2 R (-1) := fun c => hq I2 _ s o2.X hv2 ⟨fun z => absurd z c, fun _ => ⟨rfl, rfl⟩⟩
  refine ⟨fun c => bad (fun z => (v1.mpr z.1) c), fun c1 => ⟨p10slot h r2, fun c => bad (fun z => (v2.mpr z.2.1) c), fun c2 => ⟨p10slot h r3, fun c => bad (fun z => (v3.mpr z.2.2.1) c), fun c3 => ⟨p10slot h r4, fun c4 => ?_, fun c => bad (fun z => c (v4.mpr z.2.2.2))⟩⟩⟩⟩
  have h1 := v1.mp c1
  have h2 := v2.mp c2
  have h3 := v3.mp c3
  have h4 := v4.mp c4
  have hcond : (0 ≤ x1 ∧ x1 ≤ 2) ∧ slt x2 ∧ slt x3 ∧ slt x4 := ⟨h1, h2, h3, h4⟩
  have ea : x2 = ((x2.toNat : Nat) : Int) := by omega
  have eb : x3 = ((x3.toNat : Nat) : Int) := by omega
  have ec : x4 = ((x4.toNat : Nat) : Int) := by omega
  have oka := hs.2.2.2.1 x2.toNat (by omega)
  have okb := hs.2.2.2.1 x3.toNat (by omega)
  intro I3 e3
  have oH3 : offH I2 I3 m := offH.u e3 (Or.inr (Or.inr ⟨rfl, rfl⟩))
  have hv3 := hv2.oS hs oH3.toS
  have fin : ∀ (J : MI) (H : List Tm), offH I3 J m → HpH J m H → H.length ≤ 3999 → nz H = makeL s x1 x2.toNat x3.toNat → LX10_make_95 G m ((x4.toNat : Nat) : Int) S J R Q := by
    intro J H oJ hH hl hz
    have hvJ := hv3.oS hs oJ.toS
    have oX := o2.X.tr (oH3.toS.X.tr oJ.toS.X)
    refine bX10_make_95 ⟨h.1, takes_spec h hH (by omega) hl (fun J2 ft oR hR => br_f (by decide) ⟨h.1, ?_⟩) (fun nf => br_t rfl (hq J _ s oX hvJ ⟨fun _ => ⟨fun z => absurd (by rw [hz]; exact z) nf, fun _ => ⟨rfl, rfl⟩⟩, fun z => absurd hcond z⟩))⟩
    rw [hz] at hR ft
    rw [h.2.1.1.2.1, h.2.2.1.1.2.1, h.2.2.2.1.2.1, show Int.toNat ((x4.toNat : Nat) : Int) = x4.toNat by omega, hR.1]
    exact ⟨rfl, ⟨by omega, by omega⟩, hq J2 _ _ (oX.tr oR.X) (hvJ.put hs oR (by omega) hR) ⟨fun _ => ⟨fun _ => ⟨rfl, rfl⟩, fun z => absurd ft z⟩, fun z => absurd hcond z⟩⟩
  have p1 : ∀ (P : Sh → MI → MR → Prop), (∀ J, offH I3 J m → HpH J m (heapsL (s.p : Int) [] (s.f x2.toNat)) → P S J R) → CV G MX10_heapsRow [vR m, vI ((x2.toNat : Nat) : Int), vI 1, vI 0, vI 0, vI 0] S I3 R P := fun P hP =>
    heaps1_spec h hv3.1 hv3.2.1 (u_s e3) (hv3.2.2.1 _ (by omega)) (by omega) oka.toR (red0_of oka.1.2) (fun J o g _ => hP J o g)
  have p2 : ∀ (J : MI) (num : Int) (P : Sh → MI → MR → Prop), offH I3 J m → HpH J m (heapsL (s.p : Int) [] (s.f x2.toNat)) → 0 ≤ num ∧ num < (s.p : Int) → (∀ J2 H, offH I3 J2 m → HpH J2 m H → H.length ≤ 3999 → nz H = mg (s.p : Int) num 0 (s.f x2.toNat) (s.f x3.toNat) → P S J2 R) → CV G MX10_heapsRow [vR m, vI ((x3.toNat : Nat) : Int), vI num, vI 0, vI 0, vI 0] S J R P := by
    intro J num P oJ hH hnum hP
    have e := heaps2_spec (G := G) (k := 262143) (by_ := num) (Q := P) h (hv3.1.oH oJ) (hv3.2.1.oH oJ) hH oka.1 oka.toR ((hv3.2.2.1 x3.toNat (by omega)).oH oJ) (by omega) okb.toR okb.1 hnum (vk1 (by omega)) (fun J2 H o g l z => hP J2 H (oJ.tr o) g l z)
    rw [exx1.1, exx1.2.1, exx1.2.2] at e
    exact e
  rw [ea, eb, ec]
  refine ⟨fun c => p1 _ (fun J oJ hJ => ⟨fun c0 => ⟨h.1, ?_⟩, fun c0 => ⟨h.1, p2 J 1 _ oJ hJ ⟨by omega, by omega⟩ (fun J2 H o g l z => fin J2 H o g l ?_)⟩⟩), fun c => ?_⟩
  · have e2' : J m 2 = (s.p : Int) := by rw [oJ.2 2 (by omega)]; exact hv3.2.1.1
    rw [e2', w32_id (by omega)]
    refine p2 J _ _ oJ hJ ⟨by omega, by omega⟩ (fun J2 H o g l z => fin J2 H o g l ?_)
    rw [z]; unfold makeL
    rw [if_neg c0, if_pos (by omega)]
  · rw [z]; unfold makeL
    rw [if_pos (Decidable.not_not.mp c0)]
  · have hll : (heapsL (s.p : Int) [] (prdR (s.p : Int) (s.f x2.toNat) (s.f x3.toNat))).length ≤ 3999 := by
      have hlen := heapsL_len (s.p : Int) (prdR (s.p : Int) (s.f x2.toNat) (s.f x3.toNat)) []
      rw [prdR_len] at hlen
      have e0 : ([] : List Tm).length = 0 := rfl
      have hm : (s.f x2.toNat).length * (s.f x3.toNat).length ≤ 60 * 60 := Nat.mul_le_mul oka.2.2 okb.2.2
      omega
    refine multiplies_spec h hs hv3 (by omega) (by omega) (u_s e3) (fun J oJ hJ => fin J _ oJ hJ hll ?_)
    unfold makeL
    rw [if_neg (by omega), if_neg (by omega)]; rfl
end RB4
