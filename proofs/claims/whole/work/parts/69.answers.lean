/-! ===== what the other calls answer; the reference's ===== -/
def faultA (s : Ms) (x1 x : Int) : Prop := x = if x1 = 0 then s.fl.1 else if x1 = 1 then s.fl.2 else -1
def outA (s : Ms) (x1 x : Int) : Prop := x = if 0 ≤ x1 ∧ x1 < (s.sh.length : Int) then s.sh.getD x1.toNat 0 else -1
def tellT (t : Tm) (x3 : Int) : Int := if x3 = 0 then t.2 else if x3 = 1 then exx t.1 else if x3 = 2 then exy t.1 else if x3 = 3 then exz t.1 else if x3 = 4 then dg t.1 else -1
def termA (s : Ms) (x1 x2 x3 x : Int) : Prop := x = if slt x1 then (if x2 = -1 then ((s.f x1.toNat).length : Int) else if 0 ≤ x2 ∧ x2 < ((s.f x1.toNat).length : Int) then tellT ((s.f x1.toNat).getD x2.toNat (0, 0)) x3 else -1) else -1
def shapeA (s : Ms) (x1 x2 x : Int) : Prop := x = if slt x1 then (if x2 = 0 then lowL (s.f x1.toNat) else if x2 = 1 then highL (s.f x1.toNat) else if x2 = 2 then ecL (s.f x1.toNat) else if x2 = 3 then (if lowL (s.f x1.toNat) = highL (s.f x1.toNat) then 1 else 0) else if x2 = 4 then (if lowL (s.f x1.toNat) = 0 then 1 else 0) else -1) else -1
def okRing (x1 x2 : Int) : Prop := (1 ≤ x1 ∧ x1 ≤ 3) ∧ (2 ≤ x2 ∧ x2 ≤ 32749) ∧ isP x2.toNat
def ringS (s : Ms) (x1 x2 : Int) : Ms := ((x1, x2.toNat, fun _ => 1), (fun _ => []), s.2.2.1, s.2.2.2.1, s.2.2.2.2.1, none)
def ringA (s : Ms) (x1 x2 x : Int) (s' : Ms) : Prop := (okRing x1 x2 → x = 1 ∧ s' = ringS s x1 x2) ∧ (¬ okRing x1 x2 → x = 0 ∧ s' = s)
def wts (x1 x2 x3 : Int) : Nat → Int := fun i => if i = 0 then x1 else if i = 1 then x2 else x3
def okWt (x1 x2 x3 : Int) : Prop := (1 ≤ x1 ∧ x1 ≤ 4) ∧ (1 ≤ x2 ∧ x2 ≤ 4) ∧ (1 ≤ x3 ∧ x3 ≤ 4)
def wtS (s : Ms) (x1 x2 x3 : Int) : Ms := ((s.1.1, s.1.2.1, wts x1 x2 x3), (fun k => rekL (s.p : Int) (wts x1 x2 x3) (s.f k)), s.2.2.1, s.2.2.2.1, s.2.2.2.2.1, none)
def weightsA (s : Ms) (x1 x2 x3 x : Int) (s' : Ms) : Prop := (okWt x1 x2 x3 → x = 1 ∧ s' = wtS s x1 x2 x3) ∧ (¬ okWt x1 x2 x3 → x = 0 ∧ s' = s)
def endA (s : Ms) (x1 x : Int) (s' : Ms) : Prop := (0 ≤ x1 ∧ x1 ≤ (s.tn : Int) → x = 1 ∧ s' = (s.1, s.2.1, (s.b, x1.toNat), s.2.2.2)) ∧ (¬ (0 ≤ x1 ∧ x1 ≤ (s.tn : Int)) → x = 0 ∧ s' = s)
def lookA (s : Ms) (hl x1 x : Int) : Prop := x = if x1 = 0 then s.n else if x1 = 1 then (s.p : Int) else if x1 = 2 then s.w 0 else if x1 = 3 then s.w 1 else if x1 = 4 then s.w 2 else if x1 = 5 then bd s.n else if x1 = 6 then hl else if x1 = 7 then (s.tn : Int) else match s.dv with
  | none => if x1 = 8 then 0 else -1
  | some (st, a, _) => if x1 = 8 then 1 else if x1 = 9 then st else if x1 = 10 then (a : Int) else -1
/-- those of a set that do not hold 0 -/
def hld (f : Nat → List Tm) (set : Int) : Nat → Int
  | 0 => 0
  | k + 1 => hld f set k + if bitI set k = 1 ∧ f k ≠ [] then ((2 ^ k : Nat) : Int) else 0
theorem hld_r (f : Nat → List Tm) (set : Int) : ∀ k, 0 ≤ hld f set k ∧ hld f set k < ((2 ^ k : Nat) : Int)
  | 0 => ⟨Int.le_refl _, show (0 : Int) < 1 by decide⟩
  | k + 1 => by
    have h := hld_r f set k
    rw [hld, Nat.pow_succ]
    by_cases c : bitI set k = 1 ∧ f k ≠ []
    · rw [if_pos c]; omega
    · rw [if_neg c]; omega
theorem ior_all : ∀ k : Nat, k < 8 → ∀ x : Nat, x < 2 ^ k → ior (x : Int) (ishl 1 (k : Int)) = ((x + 2 ^ k : Nat) : Int) := by decide +kernel
theorem ior_hld {k : Nat} {x : Int} (hk : k < 8) (hx : 0 ≤ x ∧ x < ((2 ^ k : Nat) : Int)) : ior x (ishl 1 (k : Int)) = x + ((2 ^ k : Nat) : Int) := by
  have h := ior_all k hk x.toNat (by omega)
  rw [show ((x.toNat : Nat) : Int) = x by omega] at h
  rw [h]; omega
section RA
variable {G : Gl} {S : Sh} {R : MR} {m : Nat} {s : Ms} {I : MI} {Q : Sh → MI → MR → Int → Prop}
theorem v10bnd (h : RefV I m s) : vX10_bound I m = bd s.n := v10bound h.1
theorem ref_fault (h : RfS S R m) (hs : MsOK s) (hv : RefV I m s) {x1 : Int} (hq : ∀ I' x, offS I I' m → faultA s x1 x → Q S I' R x) : CI G MX10_fault [vR m, vI x1] S I R Q := by
  refine bX10_fault ⟨h.1, fun I2 e2 => ?_⟩
  have o2 : offS I I2 m := offS.u e2 (Or.inl rfl)
  have hv2 := hv.oS hs o2
  refine ⟨fun c => ⟨fun d => hq I2 _ o2 ?_, fun d => hq I2 _ o2 ?_⟩, fun c => hq I2 _ o2 ?_⟩
  · unfold faultA; rw [if_neg c, if_neg d]
  · unfold faultA; rw [if_neg c, if_pos (Decidable.not_not.mp d)]; exact hv2.2.2.2.2.1.2
  · unfold faultA; rw [if_pos (Decidable.not_not.mp c)]; exact hv2.2.2.2.2.1.1
theorem ref_out (h : RfS S R m) (hs : MsOK s) (hv : RefV I m s) {x1 : Int} (r1 : InR x1) (hq : ∀ I' x, offS I I' m → outA s x1 x → Q S I' R x) : CI G MX10_out [vR m, vI x1] S I R Q := by
  refine bX10_out ⟨h.1, fun I2 e2 => ?_⟩
  have o2 : offS I I2 m := offS.u e2 (Or.inl rfl)
  have hv2 := hv.oS hs o2
  have hl := hs.2.2.2.2.2.1
  have ho := hv2.2.2.2.2.2.1
  rw [ho.1, w64_id (by omega)]
  have v1 := v10in (m := m) r1 (lo := 0) (hi := (s.sh.length : Int) - 1) (by omega) (by omega)
  unfold outA at hq
  refine ⟨fun c => hq I2 _ o2 ?_, fun c => ?_⟩
  · rw [if_neg (fun z => absurd c (v1.mpr (by omega)))]
  · have c1 := v1.mp c
    rw [h.2.1.2.2.1.1, h.2.2.1.2.2.1.1, h.2.2.2.2.2.1.1]
    refine ⟨rfl, ⟨by omega, by omega⟩, hq I2 _ o2 ?_⟩
    rw [if_pos (by omega)]
    have hx : x1.toNat < s.sh.length := by omega
    rw [getDl hx]
    exact ho.2 x1.toNat _ (List.getElem?_eq_getElem hx)
theorem ref_end (h : RfS S R m) (hs : MsOK s) (hv : RefV I m s) {x1 : Int} (r1 : InR x1) (hq : ∀ I' x s', offX I I' m (m + 14) → RefV I' m s' → endA s x1 x s' → Q S I' R x) : CI G MX10_end [vR m, vI x1] S I R Q := by
  refine bX10_end ⟨h.1, fun I2 e2 => ?_⟩
  have o2 : offS I I2 m := offS.u e2 (Or.inl rfl)
  have hv2 := hv.oS hs o2
  have ht := hs.2.2.2.2.1
  rw [hv2.2.2.2.1.1]
  have v1 := v10in (m := m) r1 (lo := 0) (hi := (s.tn : Int)) (by omega) (by omega)
  refine ⟨fun c => fun I3 e3 => ?_, fun c => hq I2 _ s o2.X hv2 ⟨fun z => absurd (v1.mpr z) c, fun _ => ⟨rfl, rfl⟩⟩⟩
  have c1 := v1.mp c
  refine hq I3 _ _ (o2.X.tr (fun b hb => u_n e3 (by omega))) ?_ ⟨fun _ => ⟨rfl, rfl⟩, fun z => absurd c1 z⟩
  have em : ∀ j, j ≠ 11 → I3 m j = I2 m j := fun j hj => u_o e3 hj
  have eo : ∀ b, b ≠ m → I3 b = I2 b := fun b hb => u_n e3 hb
  refine ⟨⟨by rw [em 1 (by omega)]; exact hv2.1.1, hv2.1.2.1, fun i hi => by rw [eo _ (by omega)]; exact hv2.1.2.2.1 i hi, hv2.1.2.2.2⟩, ⟨by rw [em 2 (by omega)]; exact hv2.2.1.1, hv2.2.1.2⟩, fun k hk => ?_, ⟨?_, fun i hi => ?_⟩, ?_, ?_, ?_⟩
  · exact (hv2.2.2.1 k hk).o (hs.2.2.2.1 k hk).2.2 (by rw [eo _ (by omega)]) (fun _ _ => by rw [eo _ (by omega)]) (fun _ _ => by rw [eo _ (by omega)])
  · rw [u_s e3]; show x1 = ((x1.toNat : Nat) : Int); omega
  · rw [eo _ (by omega)]
    have hi2 : i < x1.toNat := hi
    exact hv2.2.2.2.1.2 i (by omega)
  · rw [em 14 (by omega), em 15 (by omega)]; exact hv2.2.2.2.2.1
  · refine ⟨by rw [em 19 (by omega)]; exact hv2.2.2.2.2.2.1.1, fun i x hx => by rw [eo _ (by omega)]; exact hv2.2.2.2.2.2.1.2 i x hx⟩
  · have hd := hv2.2.2.2.2.2.2
    have hok := hs.2.2.2.2.2.2
    show RefD I3 m s.2.2.2.2.2
    revert hd hok
    show RefD I2 m s.2.2.2.2.2 → DvOK (s.p : Int) s.n s.w s.2.2.2.2.2 → RefD I3 m s.2.2.2.2.2
    generalize s.2.2.2.2.2 = dv
    intro hd hok
    cases dv with
    | none => show I3 m 20 = 0; rw [em 20 (by omega)]; exact hd
    | some x =>
      obtain ⟨st, a, d⟩ := x
      have hd2 : (0 ≤ st ∧ st < 256) ∧ a < 8 ∧ DivO (s.p : Int) s.n s.w d := hok
      have h2 : I2 m 20 = 1 ∧ I2 m 21 = st ∧ I2 m 22 = (a : Int) ∧ DvH I2 m st d := hd
      show I3 m 20 = 1 ∧ I3 m 21 = st ∧ I3 m 22 = (a : Int) ∧ DvH I3 m st d
      have g := h2.2.2.2
      have o := hd2.2.2
      have ro : ∀ {r : Nat} {L : List Tm}, RowH I2 m r L → L.length ≤ 60 → RowH I3 m r L := fun hr hl => hr.o hl (by rw [eo _ (by omega)]) (fun _ _ => by rw [eo _ (by omega)]) (fun _ _ => by rw [eo _ (by omega)])
      rw [em 20 (by omega), em 21 (by omega), em 22 (by omega)]
      refine ⟨h2.1, h2.2.1, h2.2.2.1, by rw [em 23 (by omega), em 24 (by omega), em 25 (by omega)]; exact g.1, ⟨ro g.2.1.1 o.2.1.1.2.2, ro g.2.1.2.1 o.2.1.2.1.2.2, fun j hj hb => ro (g.2.1.2.2 j hj hb) (o.2.1.2.2 j hj).2.2⟩, fun i hi => ?_, fun i hi j hj => by rw [eo _ (by omega)]; exact g.2.2.2 i hi j hj⟩
      have k1 := g.2.2.1 i hi
      have o1 := o.2.2 i hi
      exact ⟨ro k1.1 o1.1.2.2, fun q => ⟨ro (k1.2 q).1 o1.2.1.2.2, fun j hj hb => ro ((k1.2 q).2 j hj hb) (o1.2.2 j hj).2.2⟩⟩
theorem ref_term (h : RfS S R m) (hs : MsOK s) (hv : RefV I m s) {x1 x2 x3 : Int} (r1 : InR x1) (r2 : InR x2) (hq : ∀ I' x, offS I I' m → termA s x1 x2 x3 x → Q S I' R x) : CI G MX10_term [vR m, vI x1, vI x2, vI x3] S I R Q := by
  refine bX10_term ⟨h.1, fun I2 e2 => ⟨p10slot h r1, ?_⟩⟩
  have o2 : offS I I2 m := offS.u e2 (Or.inl rfl)
  have hv2 := hv.oS hs o2
  have v1 := v10slot (m := m) r1
  unfold termA at hq
  refine ⟨fun c => ?_, fun c => hq I2 _ o2 (by rw [if_neg (fun z => c (v1.mpr z))])⟩
  have c1 := v1.mp c
  rw [if_pos c1] at hq
  have hL := hv2.2.2.1 x1.toNat (by omega)
  have ok := hs.2.2.2.1 x1.toNat (by omega)
  have hl60 := ok.2.2
  have e1 : x1 = ((x1.toNat : Nat) : Int) := by omega
  rw [h.2.1.1.2.1, h.2.2.1.1.2.1, h.2.2.2.1.2.1, hL.1]
  refine ⟨fun d => ⟨rfl, ⟨by omega, by omega⟩, ?_⟩, fun d => ⟨rfl, ⟨by omega, by omega⟩, hq I2 _ o2 (by rw [if_pos (Decidable.not_not.mp d)])⟩⟩
  rw [if_neg d] at hq
  rw [w64_id (by omega)]
  have v2 := v10in (m := m) r2 (lo := 0) (hi := ((s.f x1.toNat).length : Int) - 1) (by omega) (by omega)
  refine ⟨fun c2 => ?_, fun c2 => hq I2 _ o2 (by rw [if_neg (fun z => c2 (v2.mpr (by omega)))])⟩
  have c3 := v2.mp c2
  rw [if_pos (by omega)] at hq
  have hj : x2.toNat < (s.f x1.toNat).length := by omega
  have e2' : x2 = ((x2.toNat : Nat) : Int) := by omega
  have t := hL.2 x2.toNat (s.f x1.toNat)[x2.toNat] (List.getElem?_eq_getElem hj)
  have pw := hL.pow h (by omega) hl60 hj
  have dd := v10degree h hv2.1 (by omega) ok.toR hL hj
  have eg : (s.f x1.toNat).getD x2.toNat (0, 0) = (s.f x1.toNat)[x2.toNat] := by rw [List.getD_eq_getElem?_getD, List.getElem?_eq_getElem hj]; rfl
  rw [eg] at hq
  unfold tellT at hq
  have pp := fun v (hv : v < 3) => p10pow (v := v) h (show x1.toNat < 300 by omega) (show x2.toNat < 60 by omega) hv
  have ea : vX10_at m x1 x2 = ((60 * x1.toNat + x2.toNat : Nat) : Int) := by
    have := v10at (m := m) (r := x1.toNat) (j := x2.toNat) (by omega) (by omega)
    rw [← e1, ← e2'] at this; exact this
  rw [← e1, ← e2'] at pw dd
  refine ⟨fun z0 => ?_, fun z0 => ⟨fun z1 => ?_, fun z1 => ⟨fun z2 => ?_, fun z2 => ⟨fun z3 => ?_, fun z3 => ⟨fun z4 => hq I2 _ o2 ?_, fun z4 => ?_⟩⟩⟩⟩⟩
  · rw [h.2.1.1.2.2.1, h.2.2.1.1.2.2.1, h.2.2.2.1.2.2.1, ea, show Int.toNat ((60 * x1.toNat + x2.toNat : Nat) : Int) = 60 * x1.toNat + x2.toNat by omega, t.1]
    refine ⟨rfl, ⟨by omega, by omega⟩, hq I2 _ o2 (by rw [if_pos z0])⟩
  · rw [z1, show w32 (1 - 1) = 0 by decide]
    have := pp 0 (by omega)
    rw [← e1, ← e2'] at this
    refine ⟨this, hq I2 _ o2 ?_⟩
    rw [if_neg z0, if_pos z1]; exact pw.1
  · rw [z2, show w32 (2 - 1) = 1 by decide]
    have := pp 1 (by omega)
    rw [← e1, ← e2'] at this
    refine ⟨this, hq I2 _ o2 ?_⟩
    rw [if_neg z0, if_neg z1, if_pos z2]; exact pw.2.1
  · rw [z3, show w32 (3 - 1) = 2 by decide]
    have := pp 2 (by omega)
    rw [← e1, ← e2'] at this
    refine ⟨this, hq I2 _ o2 ?_⟩
    rw [if_neg z0, if_neg z1, if_neg z2, if_pos z3]; exact pw.2.2
  · rw [if_neg z0, if_neg z1, if_neg z2, if_neg z3, if_neg z4]
  · have := p10degree (I := I2) h (r := x1.toNat) (j := x2.toNat) (by omega) (by omega)
    rw [← e1, ← e2'] at this
    refine ⟨this, hq I2 _ o2 ?_⟩
    rw [if_neg z0, if_neg z1, if_neg z2, if_neg z3, if_pos (Decidable.not_not.mp z4)]; exact dd
theorem low_high_nil : lowL [] = -1 ∧ highL [] = -1 ∧ ecL [] = -1 := ⟨rfl, rfl, rfl⟩
theorem ref_shape (h : RfS S R m) (hs : MsOK s) (hv : RefV I m s) {x1 x2 : Int} (r1 : InR x1) (r2 : InR x2) (hq : ∀ I' x, offS I I' m → shapeA s x1 x2 x → Q S I' R x) : CI G MX10_shape [vR m, vI x1, vI x2] S I R Q := by
  refine bX10_shape ⟨h.1, fun I2 e2 => ⟨p10slot h r1, ?_⟩⟩
  have o2 : offS I I2 m := offS.u e2 (Or.inl rfl)
  have hv2 := hv.oS hs o2
  have v1 := v10slot (m := m) r1
  have v2 := v10in (m := m) r2 (lo := 0) (hi := 4) (by omega) (by omega)
  unfold shapeA at hq
  refine ⟨fun c => hq I2 _ o2 (by rw [if_neg (fun z => (v1.mpr z) c)]), fun c => ?_⟩
  have c1 := v1.mp c
  rw [if_pos c1] at hq
  have hL := hv2.2.2.1 x1.toNat (by omega)
  have ok := hs.2.2.2.1 x1.toNat (by omega)
  have e1 : x1 = ((x1.toNat : Nat) : Int) := by omega
  refine ⟨fun c2 => ?_, fun c2 => hq I2 _ o2 ?_⟩
  · have c3 := v2.mp c2
    rw [h.2.1.1.2.1, h.2.2.1.1.2.1, h.2.2.2.1.2.1, hL.1]
    refine ⟨rfl, ⟨by omega, by omega⟩, fun n0 => ?_, fun n0 => ?_⟩
    · have hnil : s.f x1.toNat = [] := List.eq_nil_of_length_eq_zero (by omega)
      rw [hnil, low_high_nil.1, low_high_nil.2.1, low_high_nil.2.2] at hq
      refine bX10_shape_42 ⟨fun z0 => br_t rfl (hq I2 _ o2 (by rw [if_pos z0])), fun z0 => ⟨fun z1 => br_t rfl (hq I2 _ o2 (by rw [if_neg z0, if_pos z1])), fun z1 => ⟨fun z2 => br_t rfl (hq I2 _ o2 (by rw [if_neg z0, if_neg z1, if_pos z2])), fun z2 => ⟨fun z3 => br_t rfl (hq I2 _ o2 (by rw [if_neg z0, if_neg z1, if_neg z2, if_pos z3, if_pos rfl])), fun z3 => ⟨h.1, ?_, ?_⟩⟩⟩⟩⟩
      · unfold pX10_isUnit
        rw [h.2.1.1.2.1, h.2.2.1.1.2.1, h.2.2.2.1.2.1, hL.1]
        exact ⟨h.1, rfl, ⟨by omega, by omega⟩, fun _ => trivial, fun z => absurd n0 z⟩
      · have eu : vX10_isUnit I2 R m x1 = 0 := by
          unfold vX10_isUnit
          rw [h.2.1.1.2.1, hL.1, if_pos n0]
        rw [eu]
        refine br_t rfl (hq I2 _ o2 ?_)
        rw [if_neg z0, if_neg z1, if_neg z2, if_neg z3, if_pos (by omega), if_neg (by decide)]
    · have hne : s.f x1.toNat ≠ [] := fun z => n0 (by rw [z]; exact Int.le_refl _)
      have dl := v10low h hv2.1 (show x1.toNat < 300 by omega) ok.toR hL hne
      have dh := v10high h hv2.1 (show x1.toNat < 300 by omega) ok.toR hL hne
      have de := v10ec h hv2.1 (show x1.toNat < 300 by omega) ok.toR hL hne
      rw [← e1] at dl dh de
      have ece : ecL (s.f x1.toNat) = highL (s.f x1.toNat) - lowL (s.f x1.toNat) := by unfold ecL; rw [if_neg hne]
      refine bX10_shape_42 ⟨fun z0 => br_f (by decide) ⟨h.1, dl.1, hq I2 _ o2 (by rw [if_pos z0]; exact dl.2.1)⟩, fun z0 => ⟨fun z1 => br_f (by decide) ⟨h.1, dh.1, hq I2 _ o2 (by rw [if_neg z0, if_pos z1]; exact dh.2.1)⟩, fun z1 => ⟨fun z2 => br_f (by decide) ⟨h.1, de.1, hq I2 _ o2 (by rw [if_neg z0, if_neg z1, if_pos z2]; exact de.2)⟩, fun z2 => ⟨fun z3 => br_f (by decide) ⟨h.1, de.1, fun y => hq I2 _ o2 ?_, fun y => hq I2 _ o2 ?_⟩, fun z3 => ⟨h.1, ?_, ?_⟩⟩⟩⟩⟩
      · rw [de.2] at y
        rw [if_neg z0, if_neg z1, if_neg z2, if_pos z3, if_neg (by omega)]
      · rw [de.2] at y
        rw [if_neg z0, if_neg z1, if_neg z2, if_pos z3, if_pos (by omega)]
      · unfold pX10_isUnit
        rw [h.2.1.1.2.1, h.2.2.1.1.2.1, h.2.2.2.1.2.1, hL.1]
        exact ⟨h.1, rfl, ⟨by omega, by omega⟩, fun _ => trivial, fun _ => ⟨dl.1, trivial⟩⟩
      · rw [if_neg z0, if_neg z1, if_neg z2, if_neg z3, if_pos (show x2 = 4 by omega)] at hq
        have eu : vX10_isUnit I2 R m x1 = if lowL (s.f x1.toNat) ≠ 0 then 0 else 1 := by
          unfold vX10_isUnit
          rw [h.2.1.1.2.1, hL.1, if_neg n0, dl.2.1]
        rw [eu]
        by_cases y : lowL (s.f x1.toNat) = 0
        · rw [if_neg (fun q => q y)]
          exact br_f (by decide) (hq I2 _ o2 (by rw [if_pos y]))
        · rw [if_pos y]
          exact br_t rfl (hq I2 _ o2 (by rw [if_neg y]))
  · have c3 : ¬ (0 ≤ x2 ∧ x2 ≤ 4) := fun z => c2 (v2.mpr z)
    rw [if_neg (by omega), if_neg (by omega), if_neg (by omega), if_neg (by omega), if_neg (by omega)]
end RA
