/-! ===== X10: rest ===== -/
section RQ3
variable {G : Gl} {S : Sh} {R : MR} {m : Nat} {s : Ms} {I : MI} {Q : Sh → MI → MR → Int → Prop}
theorem ref_rest (h : RfS S R m) (hs : MsOK s) (hv : RefV I m s) {x1 x2 x3 x4 : Int} (r1 : InR x1) (r2 : InR x2) (r3 : InR x3) (r4 : InR x4)
    (hq : ∀ I' x s', offX I I' m (m + 14) → RefV I' m s' → restA s x1 x2 x3 x4 x s' → Q S I' R x) : CI G MX10_rest [vR m, vI x1, vI x2, vI x3, vI x4] S I R Q := by
  have hb := bd_n s.n
  refine bX10_rest ⟨h.1, fun I2 e2 => ⟨p10slot h r1, ?_⟩⟩
  have o2 : offS I I2 m := offS.u e2 (Or.inl rfl)
  have hv2 := hv.oS hs o2
  have v1 := v10slot (m := m) r1
  have v4 := v10slot (m := m) r4
  have va := v10ask hv2 r2 r3
  have bad : ¬ (slt x1 ∧ slt x4 ∧ ask s x2 x3) → Q S I2 R (-1) := fun c => hq I2 _ s o2.X hv2 ⟨fun z => absurd z c, fun _ => ⟨rfl, rfl⟩⟩
  refine ⟨fun c => bad (fun z => absurd c (v1.mpr z.1)), fun c1 => ⟨p10slot h r4, fun c => bad (fun z => absurd c (v4.mpr z.2.1)), fun c4 => ⟨p10ask h, fun ca => ?_, fun c => bad (fun z => c (va.mpr z.2.2))⟩⟩⟩
  have h1 := v1.mp c1
  have h4 := v4.mp c4
  have hk := va.mp ca
  have hcond : slt x1 ∧ slt x4 ∧ ask s x2 x3 := ⟨h1, h4, hk⟩
  unfold slt at h1 h4
  have e1 : x1 = ((x1.toNat : Nat) : Int) := by omega
  have e4 : x4 = ((x4.toNat : Nat) : Int) := by omega
  have e3 : x3 = ((x3.toNat : Nat) : Int) := by have := hk.2.1; omega
  have hk2 := hk
  rw [e3] at hk2
  have hN := hk2.2.2
  have hl := ml_120 hs.2.1 hs.2.2.1 hN
  have okf := hs.2.2.2.1 x1.toNat (by omega)
  have go : CV G MX10_laysIdeal [vR m, vI x2, vI ((x3.toNat : Nat) : Int)] S I2 R (fun S36 I36 R36 => (sT S36 m = 10 ∧ (CV G MX10_laysRow [vR m, vI ((x1.toNat : Nat) : Int), vI 0, vI 0, vI 0] S36 I36 R36 (fun S44 I44 R44 => (sT S44 m = 10 ∧ (CV G MX10_reduces [vR m] S44 I44 R44 (fun S48 I48 R48 => (sT S48 m = 10 ∧ (∀ I53, I53 = up2 I48 m 9 0 → LX10_rest_59 G m ((x4.toNat : Nat) : Int) 0 S48 I53 R48 Q))))))))) := by
    refine lays_s h hs hv2 hk2 (fun I3 o3 hv3 hL => ⟨h.1, ?_⟩)
    have lr := laysRow_spec (G := G) (k := 262143) (Q := fun S44 I44 R44 => (sT S44 m = 10 ∧ (CV G MX10_reduces [vR m] S44 I44 R44 (fun S48 I48 R48 => (sT S48 m = 10 ∧ (∀ I53, I53 = up2 I48 m 9 0 → LX10_rest_59 G m ((x4.toNat : Nat) : Int) 0 S48 I53 R48 Q)))))) h hv3.1 hL.1 (ml_inc (by omega)) (ml_kOK (by omega)) hl (hv3.2.2.1 x1.toNat (by omega)) (by omega) okf.toR okf.1.1 (vk1 (by omega)) (fun I4 o4 hx => ⟨h.1, ?_⟩)
    · rw [exx1.1, exx1.2.1, exx1.2.2] at lr; exact lr
    rw [shf_one] at hx
    have oS4 := o3.toS.tr (o4.toS (Or.inr (Or.inr (Or.inr ⟨by omega, by omega⟩))))
    have hv4 := hv2.oS hs oS4
    have hM4 : MonH I4 m (ml s.n s.w x3.toNat) := hL.1.o (by rw [o4 m (by omega)]) (o4 _ (by omega))
    have hE4 := hL.2.o (I' := I4) (o4 _ (by omega)) (o4 _ (by omega))
    refine reduces_spec h hv4.2.1 hM4.1 hl hE4 (fun c hc => by rw [hx c hc]; exact cf_r (p2le hs) okf.1 _) (fun I5 o5 hr hU h0 => ⟨h.1, fun I6 e6 => ?_⟩)
    have oS5 := oS4.tr (o5.toS (Or.inr (Or.inr (Or.inr ⟨by omega, by omega⟩))))
    have oS6 := o2.tr (oS5.tr (offS.u e6 (Or.inr (Or.inl rfl))))
    have hv6 := hv.oS hs oS6
    have hM6 : MonH I6 m (ml s.n s.w x3.toNat) := hM4.o (by rw [u_o e6 (by omega), o5 m (by omega)]) (by rw [u_n e6 (by omega), o5 _ (by omega)])
    have e14 : I6 (m + 14) = I5 (m + 14) := u_n e6 (by omega)
    have hrst : RstU (s.p : Int) (ml s.n s.w x3.toNat).length (led (s.p : Int) s.n s.w (FF s x2) x3.toNat) (GenU (s.p : Int) s.n s.w (FF s x2) x3.toNat) (vecM (ml s.n s.w x3.toNat) (cf (s.f x1.toNat))) (I5 (m + 14)) := by
      refine ⟨hE4.1.sub.2.2.2 _ _ (fun j hj => by rw [hx j hj]) hU, fun c hc hc2 => ?_⟩
      rw [h0 c hc ((o4 (m + 13) (by omega)) ▸ (hL.led (p2le hs) hc).mpr hc2)]
      exact Int.dvd_zero _
    have rok := fun c hc => restL_ok (p := (s.p : Int)) (n := s.n) (w := s.w) (N := x3.toNat) (z := I5 (m + 14)) (c := c) (by omega) hc hr
    have loop : ∀ (q c : Nat) (J : MI), (ml s.n s.w x3.toNat).length - c = q → c ≤ (ml s.n s.w x3.toNat).length → offH I6 J m → HpH J m (restL (ml s.n s.w x3.toNat) (I5 (m + 14)) c) → LX10_rest_59 G m ((x4.toNat : Nat) : Int) (c : Int) S J R Q := by
      intro q
      induction q with
      | zero =>
        intro c J hq1 hc ho hH
        have ec : c = (ml s.n s.w x3.toNat).length := by omega
        rw [ec] at hH
        have oSJ := oS6.tr ho.toS
        have hvJ := hv.oS hs oSJ
        have hlen : (restL (ml s.n s.w x3.toNat) (I5 (m + 14)) (ml s.n s.w x3.toNat).length).length ≤ 120 := by
          have := hp_small (p := (s.p : Int)) (n := s.n) (w := s.w) (N := x3.toNat) (H := restL (ml s.n s.w x3.toNat) (I5 (m + 14)) (ml s.n s.w x3.toNat).length) ⟨(rok _ (Nat.le_refl _)).1.1, red0_of (rok _ (Nat.le_refl _)).1.2, fun t ht => ⟨((rok _ (Nat.le_refl _)).2 t ht).2.2.1, ((rok _ (Nat.le_refl _)).2 t ht).2.2.2⟩⟩ (by omega) (by omega) (fun t ht => by
            obtain ⟨j, hj, e, -⟩ := restL_mem ht
            rw [e]; exact getDl_mem hj)
          have i1 := inc_sub_len (M := ml s.n s.w x3.toNat) (L := (restL (ml s.n s.w x3.toNat) (I5 (m + 14)) (ml s.n s.w x3.toNat).length).map Prod.fst) (List.pairwise_map.mpr (rok _ (Nat.le_refl _)).1.1) (ml_inc (by omega)) (fun x hx2 => by
            obtain ⟨t, ht, e⟩ := List.mem_map.mp hx2
            obtain ⟨j, hj, e2, -⟩ := restL_mem ht
            rw [← e, e2]; exact getDl_mem hj)
          rw [List.length_map] at i1; omega
        have ex : ∃ K Rw, EchU (s.p : Int) (ml s.n s.w x3.toNat).length K Rw (GenU (s.p : Int) s.n s.w (FF s x2) x3.toNat) := ⟨_, _, hE4.1⟩
        have nzr := nz_id (rok _ (Nat.le_refl _)).1.2
        refine bX10_rest_59 ⟨h.1, ?_⟩
        have hMJ : J m 28 = ((ml s.n s.w x3.toNat).length : Int) := by rw [ho.2 28 (by omega)]; exact hM6.1
        rw [hMJ]
        refine br_t (by omega) (takes_spec h hH (by omega) (by omega) (fun J2 ft o7 hR => br_f (by decide) ⟨h.1, ?_⟩) (fun nf => br_t rfl (hq J _ s oSJ.X hvJ ⟨fun _ => ⟨ex, _, hrst, hr, fun hle => ?_, fun _ => ⟨rfl, rfl⟩⟩, fun z => absurd hcond z⟩)))
        · rw [nzr] at hR ft
          rw [h.2.1.1.2.1, h.2.2.1.1.2.1, h.2.2.2.1.2.1, show Int.toNat ((x4.toNat : Nat) : Int) = x4.toNat by omega, hR.1]
          refine ⟨rfl, ⟨by omega, by omega⟩, hq J2 _ _ (oSJ.X.tr o7.X) (hvJ.put hs o7 (by omega) hR) ⟨fun _ => ⟨ex, _, hrst, hr, fun _ => ⟨rfl, rfl⟩, fun hgt => ?_⟩, fun z => absurd hcond z⟩⟩
          have := ft.1; omega
        · rw [nzr] at nf
          exact absurd ⟨hle, fun t ht => ((rok _ (Nat.le_refl _)).2 t ht).2.1⟩ nf
      | succ q ih =>
        intro c J hq1 hc ho hH
        have hcl : c < (ml s.n s.w x3.toNat).length := by omega
        have hm := getDl_mem hcl
        have kk := ml_kOK (n := s.n) (w := s.w) (N := x3.toNat) (by omega) _ hm
        have t := hM6.2 c ((ml s.n s.w x3.toNat).getD c 0) (by rw [getDl hcl, List.getElem?_eq_getElem hcl])
        have rc := rok c (by omega)
        have e11 : J (m + 11) = I6 (m + 11) := ho.1 _ (by omega) (by omega) (by omega)
        have e14J : J (m + 14) = I5 (m + 14) := by rw [ho.1 _ (by omega) (by omega) (by omega), e14]
        have hMJ : J m 28 = ((ml s.n s.w x3.toNat).length : Int) := by rw [ho.2 28 (by omega)]; exact hM6.1
        have hrc := hr c hcl
        refine bX10_rest_59 ⟨h.1, ?_⟩
        rw [hMJ, h.2.1.2.2.2.2, h.2.2.1.2.2.2.2, h.2.2.2.2.2.2.2, h.2.1.2.2.1.2.2.1, h.2.2.1.2.2.1.2.2.1, h.2.2.2.2.2.1.2.2.1, w32_id (x := 3 * (c : Int)) (by omega), w32_id (x := 3 * (c : Int) + 1) (by omega), w32_id (x := 3 * (c : Int) + 2) (by omega), show Int.toNat (c : Int) = c by omega, show Int.toNat (3 * (c : Int)) = 3 * c by omega, show Int.toNat (3 * (c : Int) + 1) = 3 * c + 1 by omega, show Int.toNat (3 * (c : Int) + 2) = 3 * c + 2 by omega, e11, e14J, t.1, t.2.1, t.2.2, add1 (n := c) (by omega)]
        have hlenc : (restL (ml s.n s.w x3.toNat) (I5 (m + 14)) c).length ≤ 165 := hp_small (p := (s.p : Int)) (n := s.n) (w := s.w) (N := x3.toNat) ⟨rc.1.1, red0_of rc.1.2, fun t ht => ⟨(rc.2 t ht).2.2.1, (rc.2 t ht).2.2.2⟩⟩ (by omega) (by omega) (fun t ht => by
          obtain ⟨j, hj, e, -⟩ := restL_mem ht
          rw [e]; exact getDl_mem (by omega))
        refine br_f (by omega) ⟨rfl, ⟨by omega, by omega⟩, rfl, ⟨by omega, by omega⟩, ⟨by omega, by omega⟩, ⟨by omega, by omega⟩, heaps_spec h (hv6.1.oH ho) (hv6.2.1.oH ho) hH rc.1.1 (red0_of rc.1.2) (fun t ht => ⟨(rc.2 t ht).2.2.1, (rc.2 t ht).2.2.2⟩) (by omega) kk hrc (fun J2 o7 g7 => ih (c + 1) J2 (by omega) (by omega) (ho.tr o7) ?_)⟩
        rw [heapT_app (fun a ha => ?_)] at g7
        · exact g7
        · obtain ⟨j, hj, e, -⟩ := restL_mem ha
          rw [e]
          exact inc_nd (ml_inc (by omega)) (by omega) hcl hj
    exact loop (ml s.n s.w x3.toNat).length 0 I6 (by omega) (by omega) offH.rf ⟨u_s e6, fun j t ht => by cases ht⟩
  rw [e1, e3, e4]
  exact go
end RQ3
