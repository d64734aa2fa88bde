/-! ===== the class: rest and number ===== -/
theorem restL_le {M : List Int} {z : Vc} : ∀ {b a : Nat}, a ≤ b → (restL M z a).length ≤ (restL M z b).length
  | 0, a, h => by rw [show a = 0 by omega]; exact Nat.le_refl _
  | b + 1, a, h => by
    by_cases e : a = b + 1
    · rw [e]; exact Nat.le_refl _
    · have := restL_le (M := M) (z := z) (b := b) (a := a) (by omega)
      rw [restL, List.length_append]; omega
theorem cg_eq {p : Int} {a b : Int} (ha : 0 ≤ a ∧ a < p) (hb : 0 ≤ b ∧ b < p) (h : a % p = b % p) : a = b := by
  rw [Int.emod_eq_of_lt ha.1 ha.2, Int.emod_eq_of_lt hb.1 hb.2] at h; exact h
section CLK
variable {G : Gl} {S : Sh} {I : MI} {R : MR} {P : Nat → Nat} {sp pd ps nu nw af : Nat} {s : Ms}
theorem ClsV.toRest {I' : MI} {k : Nat} (h : ClsS S R P sp pd ps nu nw af) (hs : MsOK s) (hv : ClsV S I P nu nw s) (hk : k < 4) (o : ∀ c, c ≠ idA k + 123 → c ≠ sp → c ≠ sp + 1 → c ≠ sp + 2 → I' c = I c) : ClsV S I' P nu nw s := by
  have hPr := fun j (hj : j < 8) => (h.okP j hj).r
  have hap := fun j (hj : j < 8) => h.ap hj
  have nr := h.nr
  have sr := h.spp.1.r
  have kr : 792 ≤ idA k ∧ idA k ≤ 1164 := by unfold idA; omega
  refine ⟨⟨hv.rtI (fun b _ _ => o b (by omega) (by omega) (by omega) (by omega)), hv.nm.atI (o _ (by omega) (by omega) (by omega) (by omega))⟩, fun k hk => (hv.f k hk).same (fun b _ _ => o b (by have := hPr k hk; omega) (by have := hap k hk; omega) (by have := hap k hk; omega) (by have := hap k hk; omega)), hv.tpI (o _ (by omega) (by omega) (by omega) (by omega)) (o _ (by omega) (by omega) (by omega) (by omega)), hv.txI (o _ (by omega) (by omega) (by omega) (by omega)) (o _ (by omega) (by omega) (by omega) (by omega)), hv.dvI h hs (fun b _ _ => o b (by omega) (by omega) (by omega) (by omega)), by rw [o 1 (by omega) (by omega) (by omega) (by omega)]; exact hv.nx, fun j hj => ?_⟩
  exact (hv.id j hj).same hs (fun b h1 h2 => o b (by unfold idA at h1 h2 ⊢; omega) (by unfold idA at h1 h2; omega) (by unfold idA at h1 h2; omega) (by unfold idA at h1 h2; omega))
theorem cls_rest {Q : Sh → MI → MR → Int → Prop} (h : ClsS S R P sp pd ps nu nw af) (hs : MsOK s) (hv : ClsV S I P nu nw s) {x1 x2 x3 x4 : Int} (hq : ∀ S' I' R' x s', Cls S' I' R' s' → frC S I R S' I' R' → (∀ y s'', restA s x1 x2 x3 x4 y s'' → y = x ∧ s'' = s') → MsOK s' → Q S' I' R' x) : CI G MX9_rest [vR 1, vI x1, vI x2, vI x3, vI x4] S I R Q := by
  have no : ¬ (slt x1 ∧ slt x4 ∧ ask s x2 x3) → Q S I R (-1) := fun c => hq S I R _ s ⟨_, _, _, _, _, _, _, h, hv⟩ frC.rf (fun y s'' hy => hy.2 c) hs
  have vb := v9isBound h hv (x := x3)
  have hb := bd_n s.n
  refine bX9_rest ⟨fun c => no (fun z => v9isSlot.mpr z.1 c), fun a1 => ⟨fun c => no (fun z => v9isSet.mpr z.2.2.1 c), fun a2 => ⟨h.t1, p9isBound h, fun c => no (fun z => vb.mpr z.2.2.2 c), fun a3 => ⟨fun a4 => ?_, fun c => no (fun z => c (v9isSlot.mpr z.2.1))⟩⟩⟩⟩
  have c1 := v9isSlot.mp a1
  have c2 := v9isSet.mp a2
  have c3 := vb.mp a3
  have c4 := v9isSlot.mp a4
  have hA : slt x1 ∧ slt x4 ∧ ask s x2 x3 := ⟨c1, c4, c2, c3⟩
  obtain ⟨⟨t11, l11⟩, e11, po⟩ := h.slot c1
  have hPr := fun j (hj : j < 8) => (h.okP j hj).r
  have nr := h.nr
  have sr := h.spp.1.r
  have hM := hs.2.1
  have hp2 : (2 : Int) ≤ (s.p : Int) := by have := hs.1.1.1; omega
  refine idealOf_spec h hs hv c2 (fun I' k hk hv' o' hz ht => ?_)
  have idk := (h.ia.2 k hk).2
  have kr : 792 ≤ idA k ∧ idA k ≤ 1164 := by unfold idA; omega
  have ok1 := hs.2.2.2.1 x1.toNat (by omega)
  rw [h.r0, h.r1, h.r8, e11, show x3 = ((x3.toNat : Nat) : Int) by omega]
  refine ⟨h.t1, t11, l11, idk.1, leaveOver_spec (F := FF s (hld s.f x2 8)) (N := x3.toNat) idk h.ring (Or.inl (by omega)) hv'.rt h.toNu hv'.nm (by omega) (FF_ok hs _) ht po (hv'.f x1.toNat (by omega)) ok1 (by have := hPr x1.toNat (by omega); omega) h.spp.2 (by omega) (by omega) (by omega) (by omega) (by omega) (fun I2 z o2 r2 g2 l2 h2 => br_f (by decide) ⟨h.t1, ?_⟩) (fun I2 z t o2 ht2 u2 k2 g2 l2 => br_t (by decide) ?_)⟩
  · rw [show x4 = ((x4.toNat : Nat) : Int) by omega]
    have hv2 := ClsV.toRest h hs hv' hk o2
    rw [genU_held, led_held] at r2
    have okr : okQ (s.p : Int) s.n s.w (restL (ml s.n s.w x3.toNat) z (ml s.n s.w x3.toNat).length) := by
      have q := restL_ok (p := (s.p : Int)) (n := s.n) (w := s.w) (N := x3.toNat) (z := z) (c := (ml s.n s.w x3.toNat).length) (by omega) (Nat.le_refl _) g2
      exact ⟨q.1, q.2, l2⟩
    refine spare_put (s := s) h hs hv2 (by omega) h2 (fun b hb2 => (o2 b (by omega) (by omega) (by omega) (by omega)).trans (o' b (by omega))) (fun I3 R3 f3 k3 => hq S I3 R3 _ _ k3 f3 (fun y s'' hy => ?_) ⟨hs.1, hs.2.1, hs.2.2.1, fun j hj => ?_, hs.2.2.2.2⟩)
    · obtain ⟨⟨K, Rw, hE⟩, z', r', g', y1, y2⟩ := hy.1 hA
      have cgz := rst_uniq hE (⟨r2.1, fun c hc hk => r2.2 c hc ((hE.lead hp2 hc).mp hk)⟩ : RstU _ _ K _ _ z) (⟨r'.1, fun c hc hk => r'.2 c hc ((hE.lead hp2 hc).mp hk)⟩ : RstU _ _ K _ _ z')
      have ez : ∀ c, c < (ml s.n s.w x3.toNat).length → z c = z' c := fun c hc => cg_eq (g2 c hc) (g' c hc) (cgz c hc)
      have el := restL_congr (M := ml s.n s.w x3.toNat) ez
      rw [← el] at y1
      exact y1 l2
    · show okQ (s.p : Int) s.n s.w (if j = x4.toNat then _ else s.2.1 j)
      by_cases cj : j = x4.toNat
      · rw [if_pos cj]; exact okr
      · rw [if_neg cj]; exact hs.2.2.2.1 j hj
  · have hv2 := ClsV.toRest h hs hv' hk o2
    rw [genU_held] at u2
    rw [led_held] at k2
    refine hq S I2 R _ s ⟨_, _, _, _, _, _, _, h, hv2⟩ (frC.i (fun b hb2 => (o2 b (by omega) (by omega) (by omega) (by omega)).trans (o' b (by omega)))) (fun y s'' hy => ?_) hs
    obtain ⟨⟨K, Rw, hE⟩, z', r', g', y1, y2⟩ := hy.1 hA
    have pre := rst_pre hE u2 r'.1 ht2 (fun c hc hl => by rw [k2 c hc ((hE.lead hp2 (by omega)).mp hl)]; exact Int.dvd_zero _) (fun c hc hl => r'.2 c (by omega) ((hE.lead hp2 (by omega)).mp hl))
    have ez : ∀ c, c < t → z c = z' c := fun c hc => cg_eq (g2 c (by omega)) (g' c (by omega)) (emq.mpr (pre c hc))
    have el := restL_congr (M := ml s.n s.w x3.toNat) ez
    have lle := restL_le (M := ml s.n s.w x3.toNat) (z := z') ht2
    rw [el] at l2
    exact y2 (by omega)
end CLK

