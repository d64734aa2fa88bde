/-! ===== the class: rest and number ===== -/
theorem restL_le {M : List Int} {z : Vc} : ∀ {b a : Nat}, a ≤ b → (restL M z a).length ≤ (restL M z b).length
  | 0, a, h => by rw [show a = 0 by omega]; exact Nat.le_refl _
  | b + 1, a, h => by
    by_cases e : a = b + 1
    · rw [e]; exact Nat.le_refl _
    · have := restL_le (M := M) (z := z) (b := b) (a := a) (by omega)
      rw [restL, List.length_append]; omega
theorem cg_eq {p : Int} {a b : Int} (ha : 0 ≤ a ∧ a < p) (hb : 0 ≤ b ∧ b < p) (h : a % p = b % p) : a = b := by
  rw [Int.emod_eq_of_lt ha.1 ha.2, Int.emod_eq_of_lt hb.1 hb.2] at h; exact h
section CLK
variable {G : Gl} {S : Sh} {I : MI} {R : MR} {P : Nat → Nat} {sp pd ps nu nw af : Nat} {s : Ms}
theorem ClsV.toRest {I' : MI} {k : Nat} (h : ClsS S R P sp pd ps nu nw af) (hs : MsOK s) (hv : ClsV S I P nu nw s) (hk : k < 4) (o : ∀ c, c ≠ idA k + 123 → c ≠ sp → c ≠ sp + 1 → c ≠ sp + 2 → I' c = I c) : ClsV S I' P nu nw s := by
  have hPr := fun j (hj : j < 8) => (h.okP j hj).r
  have hap := fun j (hj : j < 8) => h.ap hj
  have nr := h.nr
  have sr := h.spp.1.r
  have kr : 792 ≤ idA k ∧ idA k ≤ 1164 := by unfold idA; omega
  refine ⟨⟨hv.rtI (fun b _ _ => o b (by omega) (by omega) (by omega) (by omega)), hv.nm.atI (o _ (by omega) (by omega) (by omega) (by omega))⟩, fun k hk => (hv.f k hk).same (fun b _ _ => o b (by have := hPr k hk; omega) (by have := hap k hk; omega) (by have := hap k hk; omega) (by have := hap k hk; omega)), hv.tpI (o _ (by omega) (by omega) (by omega) (by omega)) (o _ (by omega) (by omega) (by omega) (by omega)), hv.txI (o _ (by omega) (by omega) (by omega) (by omega)) (o _ (by omega) (by omega) (by omega) (by omega)), hv.dvI h hs (fun b _ _ => o b (by omega) (by omega) (by omega) (by omega)), by rw [o 1 (by omega) (by omega) (by omega) (by omega)]; exact hv.nx, fun j hj => ?_⟩
  exact (hv.id j hj).same hs (fun b h1 h2 => o b (by unfold idA at h1 h2 ⊢; omega) (by unfold idA at h1 h2; omega) (by unfold idA at h1 h2; omega) (by unfold idA at h1 h2; omega))
theorem cls_rest {Q : Sh → MI → MR → Int → Prop} (h : ClsS S R P sp pd ps nu nw af) (hs : MsOK s) (hv : ClsV S I P nu nw s) {x1 x2 x3 x4 : Int} (hq : ∀ S' I' R' x s', Cls S' I' R' s' → frC S I R S' I' R' → (∀ y s'', restA s x1 x2 x3 x4 y s'' → y = x ∧ s'' = s') → MsOK s' → Q S' I' R' x) : CI G MX9_rest [vR 1, vI x1, vI x2, vI x3, vI x4] S I R Q := by
  have no : ¬ (slt x1 ∧ slt x4 ∧ ask s x2 x3) → Q S I R (-1) := fun c => hq S I R _ s ⟨_, _, _, _, _, _, _, h, hv⟩ frC.rf (fun y s'' hy => hy.2 c) hs
  have vb := v9isBound h hv (x := x3)
  have hb := bd_n s.n
  refine bX9_rest ⟨fun c => no (fun z => v9isSlot.mpr z.1 c), fun a1 => ⟨fun c => no (fun z => v9isSet.mpr z.2.2.1 c), fun a2 => ⟨h.t1, p9isBound h, fun c => no (fun z => vb.mpr z.2.2.2 c), fun a3 => ⟨fun a4 => ?_, fun c => no (fun z => c (v9isSlot.mpr z.2.1))⟩⟩⟩⟩
  have c1 := v9isSlot.mp a1
  have c2 := v9isSet.mp a2
  have c3 := vb.mp a3
  have c4 := v9isSlot.mp a4
  have hA : slt x1 ∧ slt x4 ∧ ask s x2 x3 := ⟨c1, c4, c2, c3⟩
  obtain ⟨⟨t11, l11⟩, e11, po⟩ := h.slot c1
  have hPr := fun j (hj : j < 8) => (h.okP j hj).r
  have nr := h.nr
  have sr := h.spp.1.r
  have hM := hs.2.1
  have hp2 : (2 : Int) ≤ (s.p : Int) := by have := hs.1.1.1; omega
  refine idealOf_spec h hs hv c2 (fun I' k hk hv' o' hz ht => ?_)
  have idk := (h.ia.2 k hk).2
  have kr : 792 ≤ idA k ∧ idA k ≤ 1164 := by unfold idA; omega
  have ok1 := hs.2.2.2.1 x1.toNat (by omega)
  rw [h.r0, h.r1, h.r8, e11, show x3 = ((x3.toNat : Nat) : Int) by omega]
  refine ⟨h.t1, t11, l11, idk.1, leaveOver_spec (F := FF s (hld s.f x2 8)) (N := x3.toNat) idk h.ring (Or.inl (by omega)) hv'.rt h.toNu hv'.nm (by omega) (FF_ok hs _) ht po (hv'.f x1.toNat (by omega)) ok1 (by have := hPr x1.toNat (by omega); omega) h.spp.2 (by omega) (by omega) (by omega) (by omega) (by omega) (fun I2 z o2 r2 g2 l2 h2 => br_f (by decide) ⟨h.t1, ?_⟩) (fun I2 z t o2 ht2 u2 k2 g2 l2 => br_t (by decide) ?_)⟩
  · rw [show x4 = ((x4.toNat : Nat) : Int) by omega]
    have hv2 := ClsV.toRest h hs hv' hk o2
    rw [genU_held, led_held] at r2
    have okr : okQ (s.p : Int) s.n s.w (restL (ml s.n s.w x3.toNat) z (ml s.n s.w x3.toNat).length) := by
      have q := restL_ok (p := (s.p : Int)) (n := s.n) (w := s.w) (N := x3.toNat) (z := z) (c := (ml s.n s.w x3.toNat).length) (by omega) (Nat.le_refl _) g2
      exact ⟨q.1, q.2, l2⟩
    refine spare_put (s := s) h hs hv2 (by omega) h2 (fun b hb2 => (o2 b (by omega) (by omega) (by omega) (by omega)).trans (o' b (by omega))) (fun I3 R3 f3 k3 => hq S I3 R3 _ _ k3 f3 (fun y s'' hy => ?_) ⟨hs.1, hs.2.1, hs.2.2.1, fun j hj => ?_, hs.2.2.2.2⟩)
    · obtain ⟨⟨K, Rw, hE⟩, z', r', g', y1, y2⟩ := hy.1 hA
      have cgz := rst_uniq hE (⟨r2.1, fun c hc hk => r2.2 c hc ((hE.lead hp2 hc).mp hk)⟩ : RstU _ _ K _ _ z) (⟨r'.1, fun c hc hk => r'.2 c hc ((hE.lead hp2 hc).mp hk)⟩ : RstU _ _ K _ _ z')
      have ez : ∀ c, c < (ml s.n s.w x3.toNat).length → z c = z' c := fun c hc => cg_eq (g2 c hc) (g' c hc) (cgz c hc)
      have el := restL_congr (M := ml s.n s.w x3.toNat) ez
      rw [← el] at y1
      exact y1 l2
    · show okQ (s.p : Int) s.n s.w (if j = x4.toNat then _ else s.2.1 j)
      by_cases cj : j = x4.toNat
      · rw [if_pos cj]; exact okr
      · rw [if_neg cj]; exact hs.2.2.2.1 j hj
  · have hv2 := ClsV.toRest h hs hv' hk o2
    rw [genU_held] at u2
    rw [led_held] at k2
    refine hq S I2 R _ s ⟨_, _, _, _, _, _, _, h, hv2⟩ (frC.i (fun b hb2 => (o2 b (by omega) (by omega) (by omega) (by omega)).trans (o' b (by omega)))) (fun y s'' hy => ?_) hs
    obtain ⟨⟨K, Rw, hE⟩, z', r', g', y1, y2⟩ := hy.1 hA
    have pre := rst_pre hE u2 r'.1 ht2 (fun c hc hl => by rw [k2 c hc ((hE.lead hp2 (by omega)).mp hl)]; exact Int.dvd_zero _) (fun c hc hl => r'.2 c (by omega) ((hE.lead hp2 (by omega)).mp hl))
    have ez : ∀ c, c < t → z c = z' c := fun c hc => cg_eq (g2 c (by omega)) (g' c (by omega)) (emq.mpr (pre c hc))
    have el := restL_congr (M := ml s.n s.w x3.toNat) ez
    have lle := restL_le (M := ml s.n s.w x3.toNat) (z := z') ht2
    rw [el] at l2
    exact y2 (by omega)
def srcL (s : Ms) (a : Nat) : Nat → List Tm := fun j => if j = 3 then s.f a else derL (s.p : Int) s.w (j : Int) (s.f a)
def srcB (n what : Int) : Int := ((2 ^ n.toNat : Nat) : Int) - 1 + if what = 1 then 8 else 0
theorem srcB_bit {n what : Int} (hn : 1 ≤ n ∧ n ≤ 3) (hw : what = 0 ∨ what = 1) : (0 ≤ srcB n what ∧ srcB n what < 256) ∧ ∀ j : Nat, j < 4 → (bitI (srcB n what) j = 1 ↔ ((j : Int) < n ∨ (what = 1 ∧ j = 3))) := by
  have h3 : n = 1 ∨ n = 2 ∨ n = 3 := by omega
  rcases h3 with rfl | rfl | rfl <;> rcases hw with rfl | rfl <;> exact ⟨by decide, by decide⟩
theorem src_num {s : Ms} {a : Nat} {what : Int} (hn : 1 ≤ s.n ∧ s.n ≤ 3) (hw : what = 0 ∨ what = 1) : Fs (srcL s a) (srcB s.n what) 4 = NumF s a what := by
  have hb := (srcB_bit hn hw).2
  funext g
  apply propext
  constructor
  · rintro ⟨j, h1, h2, h3⟩
    by_cases c : j = 3
    · rcases (hb j h1).mp h2 with z | z
      · omega
      · refine Or.inr ⟨z.1, ?_⟩
        rw [h3]; exact if_pos c
    · rcases (hb j h1).mp h2 with z | z
      · refine Or.inl ⟨j, z, ?_⟩
        rw [h3]; exact if_neg c
      · exact absurd z.2 c
  · rintro (⟨v, h1, h2⟩ | ⟨h1, h2⟩)
    · refine ⟨v, by omega, (hb v (by omega)).mpr (Or.inl h1), ?_⟩
      rw [h2]; exact (if_neg (by omega)).symm
    · refine ⟨3, by omega, (hb 3 (by omega)).mpr (Or.inr ⟨h1, rfl⟩), ?_⟩
      rw [h2]; exact (if_pos rfl).symm
theorem cls_num95 {Q : Sh → MI → MR → Int → Prop} {I1 : MI} {x1 x2 : Int} (h : ClsS S R P sp pd ps nu nw af) (hs : MsOK s) (hv : ClsV S I P nu nw s) (c1 : slt x1) (c2 : x2 = 0 ∨ x2 = 1) (o1 : ∀ b, (b < 1289 ∨ 1300 < b) → I1 b = I b) (hL : ∀ j : Nat, j < 4 → ((j : Int) < s.n ∨ (x2 = 1 ∧ j = 3)) → Has I1 (1289 + 3 * j) (srcL s x1.toNat j))
    (hq : ∀ S' I' R' x, Cls S' I' R' s → frC S I R S' I' R' → (∀ y, numberA s x1 x2 y → y = x) → Q S' I' R' x) : LX9_number_95 G 1 (srcB s.n x2) S I1 R Q := by
  have hPr := fun j (hj : j < 8) => (h.okP j hj).r
  have nr := h.nr
  have hv1 : ClsV S I1 P nu nw s := hv.ch h hs (fun b _ _ => o1 b (by omega)) (o1 nu (by omega)) (fun k hk b _ _ => o1 b (by have := hPr k hk; omega)) ⟨o1 _ (by omega), o1 _ (by omega), fun b _ _ => o1 b (by omega)⟩
  refine bX9_number_95 ⟨h.t1, oldest_spec h hv1 (fun I2 k hk o2 n2 z2 => ?_)⟩
  have idk := (h.ia.2 k hk).2
  have kr : 792 ≤ idA k ∧ idA k ≤ 1164 := by unfold idA; omega
  have hp2 : (2 : Int) ≤ (s.p : Int) := by have := hs.1.1.1; omega
  have okf := hs.2.2.2.1 x1.toNat (by omega)
  have hb := srcB_bit hs.2.1 c2
  have hbn := bd_n s.n
  rw [h.r0, h.r6]
  refine ⟨h.t1, idk.1, build_spec (i := idA k) (r := 2) (pa := 1288) (nl := 4) (P := fun j => 1289 + 3 * j) (f := srcL s x1.toNat) (bits := srcB s.n x2) idk h.ring (Or.inl (by omega)) (hv1.rtI (fun b _ _ => o2 b (by omega) (by omega))) h.toNu (hv1.nm.atI (o2 nu (by omega) (by omega))) hs.1.1 (by omega) ((hv1.id k hk).1.sm2 (fun b h1 h2 => o2 b (by omega) (by omega))) h.so (by omega) hb.1 (fun j hj hbit => ⟨(hL j hj ((hb.2 j hj).mp hbit)).same (fun b h1 h2 => o2 b (by omega) (by omega)), ?_⟩) (fun j hj => Or.inr (by show idA k + 123 < 1289 + 3 * j; omega)) (fun I3 o3 t3 zz3 => ?_)⟩
  · unfold srcL
    by_cases c : j = 3
    · rw [if_pos c]; exact okf
    · rw [if_neg c]
      rcases (hb.2 j hj).mp hbit with z | z
      · exact derL_ok hp2 hs.2.2.1 hs.2.1 z okf
      · exact absurd z.2 c
  · rw [src_num hs.2.1 c2] at t3
    have oo : ∀ b, b ≠ 1 → (b < idA k ∨ idA k + 123 < b) → (b < 1289 ∨ 1300 < b) → I3 b = I b := fun b h1 h2 h3 => by rw [o3 b (by omega), o2 b h1 (by omega), o1 b h3]
    have hv3 : ClsV S I3 P nu nw s := ClsV.toIdeal (k := k) h hs hv (fun b hb => oo b (by omega) (by omega) (by omega)) (by rw [o3 1 (by omega)]; exact n2) ⟨zz3, Or.inl (by rw [o3 (idA k) (by omega)]; exact z2)⟩
    rw [h.r0]
    refine ⟨h.t1, idk.1, size_spec idk h.ring hv3.rt (fun x hx => hq S I3 R _ ⟨_, _, _, _, _, _, _, h, hv3⟩ (frC.i (fun b hb => oo b (by omega) (by omega) (by omega))) (fun y hy => lenA_uniq (hy.1 ⟨c1, by omega, by omega⟩ _ t3.2.2) ⟨x, hx, (if_neg (by decide : ¬ (1 : Int) = 0)).symm⟩))⟩
theorem cls_number {Q : Sh → MI → MR → Int → Prop} (h : ClsS S R P sp pd ps nu nw af) (hs : MsOK s) (hv : ClsV S I P nu nw s) {x1 x2 : Int} (hq : ∀ S' I' R' x, Cls S' I' R' s → frC S I R S' I' R' → (∀ y, numberA s x1 x2 y → y = x) → Q S' I' R' x) : CI G MX9_number [vR 1, vI x1, vI x2] S I R Q := by
  have no : ¬ (slt x1 ∧ 0 ≤ x2 ∧ x2 ≤ 1) → Q S I R (-1) := fun c => hq S I R _ ⟨_, _, _, _, _, _, _, h, hv⟩ frC.rf (fun y hy => hy.2 c)
  refine bX9_number ⟨fun c => no (fun z => v9isSlot.mpr z.1 c), fun a1 => ⟨fun c => no (by omega), fun a2 => ⟨fun a3 => ?_, fun c => no (by omega)⟩⟩⟩
  have c1 := v9isSlot.mp a1
  have c2 : x2 = 0 ∨ x2 = 1 := by omega
  obtain ⟨⟨t11, l11⟩, e11, po⟩ := h.slot c1
  have hPr := fun j (hj : j < 8) => (h.okP j hj).r
  have nr := h.nr
  have pr := hPr x1.toNat (by omega)
  have okf := hs.2.2.2.1 x1.toNat (by omega)
  have hn := hs.2.1
  have hr := h.ring
  have loop : ∀ (q v : Nat) (I1 : MI), s.n.toNat - v = q → (v : Int) ≤ s.n → (∀ b, (b < 1289 ∨ 1300 < b) → I1 b = I b) → (∀ j, j < v → Has I1 (1289 + 3 * j) (srcL s x1.toNat j)) → LX9_number_23 G 1 x1 x2 (((2 ^ v : Nat) : Int) - 1) (v : Int) S I1 R Q := by
    intro q
    induction q with
    | zero =>
      intro v I1 hq1 hvn o1 hL
      have ev : (v : Int) = s.n := by omega
      have ev2 : v = s.n.toNat := by omega
      refine bX9_number_23 ?_
      have n0 : I1 2 0 = s.n := by rw [o1 2 (by omega)]; exact hv.rt.1.1
      rw [h.r0, h.r1, h.r6, n0, e11]
      refine ⟨h.t1, hr.1, br_t (by omega) ⟨fun c => ?_, fun c => ?_⟩⟩
      · have e0 : ((2 ^ v : Nat) : Int) - 1 = srcB s.n x2 := by unfold srcB; rw [if_neg c, Int.add_zero, ev2]
        rw [e0]
        exact cls_num95 h hs hv c1 c2 o1 (fun j hj hz => hL j (by omega)) hq
      · have c' : x2 = 1 := Decidable.not_not.mp c
        have s3 := h.so.2 3 (by omega)
        have e13 : R 1288 (Int.toNat 3) = 1298 := s3.1
        rw [e13]
        have p98 : PolyS S R 1298 60 := s3.2
        have v3 : v ≤ 3 := by omega
        have pw : 2 ^ v ≤ 8 ∧ 1 ≤ 2 ^ v := by
          have : v = 1 ∨ v = 2 ∨ v = 3 := by omega
          rcases this with z | z | z <;> rw [z] <;> decide
        have e8 : ior (((2 ^ v : Nat) : Int) - 1) 8 = srcB s.n x2 := by
          have q := ior_hld (k := 3) (x := ((2 ^ v : Nat) : Int) - 1) (by omega) (by omega)
          have e1 : ishl 1 ((3 : Nat) : Int) = 8 := by decide
          rw [e1] at q
          rw [q]
          unfold srcB
          rw [if_pos c', ← ev2]; rfl
        rw [e8]
        refine ⟨h.so.1.1, ⟨by omega, by rw [h.so.1.2]; omega⟩, t11, l11, p98.1, become_spec p98 po ((hv.f x1.toNat (by omega)).same (fun b _ _ => o1 b (by omega))) (by unfold apt; omega) okf.2.2 okf.2.2 (by omega) (fun I2 o2 h2 => ?_)⟩
        refine cls_num95 h hs hv c1 c2 (fun b hb => (o2 b (by omega) (by omega) (by omega)).trans (o1 b hb)) (fun j hj hz => ?_) hq
        by_cases cj : j = 3
        · rw [cj]; exact h2
        · exact (hL j (by omega)).same (fun b _ _ => o2 b (by omega) (by omega) (by omega))
    | succ q ih =>
      intro v I1 hq1 hvn o1 hL
      have v3 : v < 3 := by omega
      refine bX9_number_23 ?_
      have n0 : I1 2 0 = s.n := by rw [o1 2 (by omega)]; exact hv.rt.1.1
      have sv := h.so.2 v (by omega)
      rw [h.r0, h.r1, h.r6, n0, e11, show Int.toNat (v : Int) = v by omega, sv.1, add1 (n := v) (by omega)]
      have e8 : ior (((2 ^ v : Nat) : Int) - 1) (ishl 1 (v : Int)) = ((2 ^ (v + 1) : Nat) : Int) - 1 := by
        have : v = 0 ∨ v = 1 ∨ v = 2 := by omega
        rcases this with z | z | z <;> rw [z] <;> decide
      rw [e8]
      have rt1 := hv.rtI (I' := I1) (fun b _ _ => o1 b (by omega))
      refine ⟨h.t1, hr.1, br_f (by omega) ⟨h.so.1.1, ⟨by omega, by rw [h.so.1.2]; omega⟩, t11, l11, sv.2.1, derivative_spec (a := 1289 + 3 * v) sv.2 po ((hv.f x1.toNat (by omega)).same (fun b _ _ => o1 b (by omega))) (by unfold apt; omega) (by omega) okf.2.2 okf.2.2 (fun t ht => ?_) hr rt1.1 h.toNu (hv.nm.atI (o1 nu (by omega))) (by omega) (fun x hx => by omega) (fun I2 o2 h2 => ih (v + 1) I2 (by omega) (by omega) (fun b hb => (o2 b (by omega) (by omega) (by omega)).trans (o1 b hb)) (fun j hj => ?_))⟩⟩
      · have q := okf.2.1 t ht
        have q2 := okf.1.2 t ht
        exact ⟨q.1, q.2.1, q.2.2.1, by omega, q2.2⟩
      · by_cases cj : j = v
        · rw [cj]
          have e : srcL s x1.toNat v = derL (s.p : Int) s.w (v : Int) (s.f x1.toNat) := if_neg (by omega)
          rw [e]; exact h2
        · exact (hL j (by omega)).same (fun b _ _ => o2 b (by omega) (by omega) (by omega))
  exact loop s.n.toNat 0 I rfl (by omega) (fun _ _ => rfl) (fun j hj => absurd hj (Nat.not_lt_zero _))
end CLK
