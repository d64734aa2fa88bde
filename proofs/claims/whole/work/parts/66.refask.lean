/-! ===== X10: corners, stairs, lengths ===== -/
def ask (s : Ms) (set N : Int) : Prop := (0 ≤ set ∧ set < 256) ∧ 1 ≤ N ∧ N ≤ bd s.n
abbrev FF (s : Ms) (set : Int) : List Tm → Prop := Fs s.f set 8
theorem FF.ok {s : Ms} (hs : MsOK s) {set : Int} : ∀ g, FF s set g → okQ (s.p : Int) s.n s.w g := fun g ⟨k, hk, _, e⟩ => by rw [e]; exact hs.2.2.2.1 k hk
/-- what is told of a place: -1 none -/
def tellP (M : List Int) (c what : Int) : Int := if c = -1 then -1 else if what = 0 then exx (M.getD c.toNat 0) else if what = 1 then exy (M.getD c.toNat 0) else if what = 2 then exz (M.getD c.toNat 0) else if what = 3 then dg (M.getD c.toNat 0) else -1
/-- LENGTH and where it is told -/
def lenA (n : Int) (w : Nat → Int) (kd : Nat → Int) (what x : Int) : Prop := ∃ y, Lst (stl n w kd) (bd n).toNat y ∧ x = if what = 0 then y else if y = -1 then -1 else cnt kd 0 0 (ml n w y.toNat).length
section RQ
variable {G : Gl} {S : Sh} {R : MR} {m : Nat} {s : Ms} {I : MI} {Q : Sh → MI → MR → Int → Prop}
theorem v10bound {n : Int} {w : Nat → Int} (h : RfW I m n w) : vX10_bound I m = bd n := by
  unfold vX10_bound bd
  rw [h.1]
  by_cases c : n = 1
  · rw [if_neg (fun q => q c), if_pos c]
  · rw [if_pos c, if_neg c]
    by_cases d : n = 2
    · rw [if_neg (fun q => q d), if_pos d]
    · rw [if_pos d, if_neg d]
theorem p10ask (h : RfS S R m) {a b : Int} : pX10_canAsk S m a b := ⟨h.1, fun _ => trivial, fun _ => ⟨⟨h.1, trivial⟩, trivial⟩⟩
theorem v10ask (hv : RefV I m s) {a b : Int} (ra : InR a) (rb : InR b) : vX10_canAsk I m a b ≠ 0 ↔ ask s a b := by
  have hb := bd_n s.n
  unfold vX10_canAsk ask
  rw [v10bound hv.1, isIn_eq (inl_r ra) (inl_n (by omega)) (inl_n (by omega)), isIn_eq (inl_r rb) (inl_n (by omega)) (inl_n (by omega))]
  by_cases c : 0 ≤ a ∧ a ≤ 255
  · rw [if_pos c, if_neg (by decide)]
    by_cases d : 1 ≤ b ∧ b ≤ bd s.n
    · rw [if_pos d, if_neg (by decide)]
      exact ⟨fun _ => ⟨by omega, d⟩, fun _ => by decide⟩
    · rw [if_neg d, if_pos rfl]
      exact ⟨fun z => absurd rfl z, fun z => absurd z.2 d⟩
  · rw [if_neg c, if_pos rfl]
    exact ⟨fun z => absurd rfl z, fun z => absurd (show 0 ≤ a ∧ a ≤ 255 by omega) c⟩
theorem lays_s (h : RfS S R m) (hs : MsOK s) (hv : RefV I m s) {Q : Sh → MI → MR → Prop} {set : Int} {N : Nat} (hk : ask s set (N : Int)) (hq : ∀ I', offD I I' m → RefV I' m s → LdR I' m (s.p : Int) s.n s.w N (GenU (s.p : Int) s.n s.w (FF s set) N) → Q S I' R) : CV G MX10_laysIdeal [vR m, vI set, vI (N : Int)] S I R Q :=
  laysIdeal_spec h hv.1 hv.2.1 hs.1.1 hk.2.2 (by have := hk.2.1; omega) hk.1 (fun k hk2 => ⟨hv.2.2.1 k hk2, hs.2.2.2.1 k hk2⟩) (fun I' o hL => hq I' o (hv.oS hs o.toS) hL)
theorem p2le {s : Ms} (hs : MsOK s) : (2 : Int) ≤ (s.p : Int) := by have := hs.1.1.1; omega
theorem ref_corners (h : RfS S R m) (hs : MsOK s) (hv : RefV I m s) {x1 x2 : Int} (r1 : InR x1) (r2 : InR x2)
    (hq : ∀ I' x, offS I I' m → (ask s x1 x2 → ∀ kd, KdU (s.p : Int) s.n s.w (FF s x1) x2.toNat kd → x = cnt kd 2 0 (ml s.n s.w x2.toNat).length) → (¬ ask s x1 x2 → x = -1) → Q S I' R x) : CI G MX10_corners [vR m, vI x1, vI x2] S I R Q := by
  refine bX10_corners ⟨h.1, fun I2 e2 => ⟨p10ask h, ?_⟩⟩
  have o2 : offS I I2 m := offS.u e2 (Or.inl rfl)
  have hv2 := hv.oS hs o2
  have va := v10ask hv2 r1 r2
  refine ⟨fun c => ?_, fun c => hq I2 _ o2 (fun z => absurd (va.mpr z) c) (fun _ => rfl)⟩
  have hk := va.mp c
  have eN : x2 = ((x2.toNat : Nat) : Int) := by have := hk.2.1; omega
  have hk2 := hk
  rw [eN] at hk2
  have go : CV G MX10_laysIdeal [vR m, vI x1, vI ((x2.toNat : Nat) : Int)] S I2 R (fun S19 I19 R19 => (sT S19 m = 10 ∧ (CI G MX10_found [vR m, vI 1, vI (-1)] S19 I19 R19 (fun S25 I25 R25 x25_ => Q S25 I25 R25 x25_)))) :=
    lays_s h hs hv2 hk2 (fun I3 o3 hv3 hL => ⟨h.1, found_spec h hv3.1 (p2le hs) hk2.2.2 (FF.ok hs) hL (Or.inr rfl) ⟨by omega, by omega⟩ (fun x hx _ => hq I3 x (o2.tr o3.toS) (fun _ kd hkd => ?_) (fun z => absurd hk z))⟩)
  · rw [eN]; exact go
  · rw [hx kd hkd]; rfl
theorem ofMono_ok (h : RfS S R m) {n : Int} {w : Nat → Int} {M : List Int} (hw : RfW I m n w) (hM : MonH I m M) (hk : ∀ k ∈ M, kOK n w k) (hl : M.length ≤ 165) {c what : Int} (rw_ : InR what) (hc : c = -1 ∨ ∃ j : Nat, j < M.length ∧ c = (j : Int)) : pX10_ofMonomial S I R m c what ∧ vX10_ofMonomial I R m c what = tellP M c what := by
  unfold pX10_ofMonomial vX10_ofMonomial tellP
  rcases hc with e | ⟨j, hj, e⟩
  · rw [if_pos e, if_pos e]
    exact ⟨⟨fun _ => trivial, fun z => absurd e z⟩, rfl⟩
  · have hne : ¬ c = -1 := by omega
    have dc := v10da h hw hM hk hl hj
    have t := hM.2 j (M.getD j 0) (by rw [getDl hj, List.getElem?_eq_getElem hj])
    rw [isIn_eq (inl_r rw_) (inl_n (by omega)) (inl_n (by omega)), if_neg hne, if_neg hne, e, show Int.toNat (j : Int) = j by omega]
    by_cases c1 : 0 ≤ what ∧ what ≤ 3
    · rw [if_pos c1, if_pos (show (1 : Int) ≠ 0 by decide)]
      rw [h.2.1.2.2.1.2.2.1, h.2.2.1.2.2.1.2.2.1, h.2.2.2.2.2.1.2.2.1, w32_id (x := 3 * (j : Int)) (by omega), w32_id (x := 3 * (j : Int) + what) (by omega)]
      refine ⟨⟨fun z => absurd z (by omega), fun _ => ⟨h.1, fun _ => ⟨fun _ => ⟨rfl, ⟨by omega, by omega⟩, trivial⟩, fun _ => ⟨dc.1, trivial⟩⟩, fun z => absurd (by decide) z⟩⟩, ?_⟩
      have h4 : what = 0 ∨ what = 1 ∨ what = 2 ∨ what = 3 := by omega
      rcases h4 with rfl | rfl | rfl | rfl
      · rw [if_pos (by decide), if_pos rfl, show Int.toNat (3 * (j : Int) + 0) = 3 * j by omega]; exact t.1
      · rw [if_pos (by decide), if_neg (by decide), if_pos rfl, show Int.toNat (3 * (j : Int) + 1) = 3 * j + 1 by omega]; exact t.2.1
      · rw [if_pos (by decide), if_neg (by decide), if_neg (by decide), if_pos rfl, show Int.toNat (3 * (j : Int) + 2) = 3 * j + 2 by omega]; exact t.2.2
      · rw [if_neg (by decide), if_neg (by decide), if_neg (by decide), if_neg (by decide), if_pos rfl]; exact dc.2
    · rw [if_neg c1, if_neg (show ¬ (0 : Int) ≠ 0 by decide), if_neg (by omega), if_neg (by omega), if_neg (by omega), if_neg (by omega)]
      exact ⟨⟨fun z => absurd z (by omega), fun _ => ⟨h.1, fun z => absurd rfl z, fun _ => trivial⟩⟩, rfl⟩
theorem ml_kOK {n : Int} {w : Nat → Int} {N : Nat} (hN : N ≤ 25) : ∀ k ∈ ml n w N, kOK n w k := fun k hk => ⟨(of_mem (by omega) hk).1, (of_mem (by omega) hk).2.1⟩
/-- corner and stair: k is 2 or 0 -/
def tellA (s : Ms) (x1 x2 x3 x4 k x : Int) : Prop := (ask s x1 x2 ∧ 0 ≤ x3 → ∀ kd, KdU (s.p : Int) s.n s.w (FF s x1) x2.toNat kd → x = tellP (ml s.n s.w x2.toNat) (fnd kd k (ml s.n s.w x2.toNat).length 0 x3) x4) ∧ (¬ (ask s x1 x2 ∧ 0 ≤ x3) → x = -1)
theorem ref_tell (h : RfS S R m) (hs : MsOK s) (hv : RefV I m s) {x1 x2 x3 x4 cn : Int} (r3 : InR x3) (r4 : InR x4) (hcn : cn = 0 ∨ cn = 1) (hk : ask s x1 x2) (h3 : 0 ≤ x3)
    (hq : ∀ I' x, offS I I' m → tellA s x1 x2 x3 x4 (2 * cn) x → Q S I' R x) : CV G MX10_laysIdeal [vR m, vI x1, vI x2] S I R (fun S23 I23 R23 => (sT S23 m = 10 ∧ (CI G MX10_found [vR m, vI cn, vI x3] S23 I23 R23 (fun S30 I30 R30 x30_ => (sT S30 m = 10 ∧ ((pX10_ofMonomial S30 I30 R30 m x30_ x4) ∧ Q S30 I30 R30 (vX10_ofMonomial I30 R30 m x30_ x4))))))) := by
  have eN : x2 = ((x2.toNat : Nat) : Int) := by have := hk.2.1; omega
  have hk2 := hk
  rw [eN] at hk2
  have hb := bd_n s.n
  have hl := ml_120 hs.2.1 hs.2.2.1 hk2.2.2
  have hN := hk2.2.2
  have go : CV G MX10_laysIdeal [vR m, vI x1, vI ((x2.toNat : Nat) : Int)] S I R (fun S23 I23 R23 => (sT S23 m = 10 ∧ (CI G MX10_found [vR m, vI cn, vI x3] S23 I23 R23 (fun S30 I30 R30 x30_ => (sT S30 m = 10 ∧ ((pX10_ofMonomial S30 I30 R30 m x30_ x4) ∧ Q S30 I30 R30 (vX10_ofMonomial I30 R30 m x30_ x4))))))) := by
    refine lays_s h hs hv hk2 (fun I3 o3 hv3 hL => ⟨h.1, found_spec h hv3.1 (p2le hs) hk2.2.2 (FF.ok hs) hL hcn ⟨by omega, r3.2⟩ (fun x hx hx2 => ?_)⟩)
    have om := ofMono_ok h hv3.1 hL.1 (ml_kOK (by omega)) (by omega) r4 (hx2 (by omega))
    refine ⟨h.1, om.1, hq I3 _ o3.toS ⟨fun _ kd hkd => ?_, fun z => absurd ⟨hk, h3⟩ z⟩⟩
    rw [om.2, hx kd hkd]
    unfold fdR
    rw [if_neg (by omega)]
  rw [eN]; exact go
theorem ref_corner (h : RfS S R m) (hs : MsOK s) (hv : RefV I m s) {x1 x2 x3 x4 : Int} (r1 : InR x1) (r2 : InR x2) (r3 : InR x3) (r4 : InR x4)
    (hq : ∀ I' x, offS I I' m → tellA s x1 x2 x3 x4 2 x → Q S I' R x) : CI G MX10_corner [vR m, vI x1, vI x2, vI x3, vI x4] S I R Q := by
  refine bX10_corner ⟨h.1, fun I2 e2 => ⟨p10ask h, ?_⟩⟩
  have o2 : offS I I2 m := offS.u e2 (Or.inl rfl)
  have hv2 := hv.oS hs o2
  have va := v10ask hv2 r1 r2
  refine ⟨fun c => hq I2 _ o2 ⟨fun z => absurd c (va.mpr z.1), fun _ => rfl⟩, fun c => ⟨fun c3 => ref_tell h hs hv2 r3 r4 (Or.inr rfl) (va.mp c) c3 (fun I' x o hx => hq I' x (o2.tr o) hx), fun c3 => hq I2 _ o2 ⟨fun z => absurd z.2 c3, fun _ => rfl⟩⟩⟩
theorem ref_stair (h : RfS S R m) (hs : MsOK s) (hv : RefV I m s) {x1 x2 x3 x4 : Int} (r1 : InR x1) (r2 : InR x2) (r3 : InR x3) (r4 : InR x4)
    (hq : ∀ I' x, offS I I' m → tellA s x1 x2 x3 x4 0 x → Q S I' R x) : CI G MX10_stair [vR m, vI x1, vI x2, vI x3, vI x4] S I R Q := by
  refine bX10_stair ⟨h.1, fun I2 e2 => ⟨p10ask h, ?_⟩⟩
  have o2 : offS I I2 m := offS.u e2 (Or.inl rfl)
  have hv2 := hv.oS hs o2
  have va := v10ask hv2 r1 r2
  refine ⟨fun c => hq I2 _ o2 ⟨fun z => absurd c (va.mpr z.1), fun _ => rfl⟩, fun c => ⟨fun c3 => ref_tell h hs hv2 r3 r4 (Or.inl rfl) (va.mp c) c3 (fun I' x o hx => hq I' x (o2.tr o) hx), fun c3 => hq I2 _ o2 ⟨fun z => absurd z.2 c3, fun _ => rfl⟩⟩⟩
def stairsA (s : Ms) (x1 x2 x3 x : Int) : Prop := (ask s x1 x2 ∧ -1 ≤ x3 ∧ x3 < x2 → ∀ kd, KdU (s.p : Int) s.n s.w (FF s x1) x2.toNat kd → x = if x3 = -1 then cnt kd 0 0 (ml s.n s.w x2.toNat).length else cnt kd 0 (ml s.n s.w x3.toNat).length ((ml s.n s.w (x3.toNat + 1)).length - (ml s.n s.w x3.toNat).length)) ∧ (¬ (ask s x1 x2 ∧ -1 ≤ x3 ∧ x3 < x2) → x = -1)
theorem ref_stairs (h : RfS S R m) (hs : MsOK s) (hv : RefV I m s) {x1 x2 x3 : Int} (r1 : InR x1) (r2 : InR x2) (r3 : InR x3)
    (hq : ∀ I' x, offS I I' m → stairsA s x1 x2 x3 x → Q S I' R x) : CI G MX10_stairs [vR m, vI x1, vI x2, vI x3] S I R Q := by
  refine bX10_stairs ⟨h.1, fun I2 e2 => ⟨p10ask h, ?_⟩⟩
  have o2 : offS I I2 m := offS.u e2 (Or.inl rfl)
  have hv2 := hv.oS hs o2
  have va := v10ask hv2 r1 r2
  have hb := bd_n s.n
  refine ⟨fun c => hq I2 _ o2 ⟨fun z => absurd c (va.mpr z.1), fun _ => rfl⟩, fun c => ?_⟩
  have hk := va.mp c
  have eN : x2 = ((x2.toNat : Nat) : Int) := by have := hk.2.1; omega
  have hk2 := hk
  rw [eN] at hk2
  have hN := hk2.2.2
  have hl := ml_120 hs.2.1 hs.2.2.1 hN
  rw [w64_id (by have := hk.2; omega), isIn_eq (inl_r r3) (inl_n (by omega)) (inl_n (by have := hk.2; omega))]
  by_cases c3 : -1 ≤ x3 ∧ x3 ≤ x2 - 1
  · rw [if_pos c3]
    refine br_t (by decide) ?_
    have go : CV G MX10_laysIdeal [vR m, vI x1, vI ((x2.toNat : Nat) : Int)] S I2 R (fun S35 I35 R35 => ((x3 ≠ (-1) → LX10_stairs_56 G m x3 0 0 S35 I35 R35 Q) ∧ (¬ (x3 ≠ (-1)) → (sT S35 m = 10 ∧ (CI G MX10_found [vR m, vI 0, vI (-1)] S35 I35 R35 (fun S46 I46 R46 x46_ => Q S46 I46 R46 x46_)))))) := by
      refine lays_s h hs hv2 hk2 (fun I3 o3 hv3 hL => ⟨fun d => ?_, fun d => ⟨h.1, found_spec h hv3.1 (p2le hs) hk2.2.2 (FF.ok hs) hL (Or.inl rfl) ⟨by omega, by omega⟩ (fun x hx _ => hq I3 x (o2.tr o3.toS) ⟨fun _ kd hkd => ?_, fun z => absurd ⟨hk, by omega⟩ z⟩)⟩⟩)
      · have ed : x3 = ((x3.toNat : Nat) : Int) := by omega
        have l1 := ml_le (n := s.n) (w := s.w) (N := x3.toNat) (D := x3.toNat + 1) (by omega)
        have l2 := ml_le (n := s.n) (w := s.w) (N := x3.toNat + 1) (D := x2.toNat) (by omega)
        have loop : ∀ (q c : Nat) (x : Int), (ml s.n s.w x2.toNat).length - c = q → c ≤ (ml s.n s.w x2.toNat).length → 0 ≤ x → x ≤ (c : Int) → (∀ kd, KdU (s.p : Int) s.n s.w (FF s x1) x2.toNat kd → x = cnt kd 0 (ml s.n s.w x3.toNat).length (min c (ml s.n s.w (x3.toNat + 1)).length - (ml s.n s.w x3.toNat).length)) → LX10_stairs_56 G m x3 x (c : Int) S I3 R Q := by
          intro q
          induction q with
          | zero =>
            intro c x hq1 hc hx0 hx hkd
            refine bX10_stairs_56 ⟨h.1, ?_⟩
            rw [hL.1.1]
            refine br_t (by omega) (hq I3 x (o2.tr o3.toS) ⟨fun _ kd hk3 => ?_, fun z => absurd ⟨hk, by omega⟩ z⟩)
            rw [if_neg d, hkd kd hk3, show min c (ml s.n s.w (x3.toNat + 1)).length = (ml s.n s.w (x3.toNat + 1)).length by omega]
          | succ q ih =>
            intro c x hq1 hc hx0 hx hkd
            have hcl : c < (ml s.n s.w x2.toNat).length := by omega
            have hle := hL.led (p2le hs) hcl
            have dc := v10da h hv3.1 hL.1 (ml_kOK (by omega)) (by omega) hcl
            have i1 := ml_idx (N := x2.toNat) (d := x3.toNat) hs.2.2.1 (by omega) (by omega) hcl
            have i2 := ml_idx (N := x2.toNat) (d := x3.toNat + 1) hs.2.2.1 (by omega) (by omega) hcl
            have no : (∀ kd, KdU (s.p : Int) s.n s.w (FF s x1) x2.toNat kd → kd c = 0 → ¬ ((ml s.n s.w x3.toNat).length ≤ c ∧ c < (ml s.n s.w (x3.toNat + 1)).length)) → LX10_stairs_56 G m x3 x ((c + 1 : Nat) : Int) S I3 R Q := fun z => ih (c + 1) x (by omega) (by omega) hx0 (by omega) (fun kd hk3 => by
              rw [hkd kd hk3]
              have z2 := z kd hk3
              by_cases g : (ml s.n s.w x3.toNat).length ≤ c ∧ c < (ml s.n s.w (x3.toNat + 1)).length
              · have g0 : ¬ kd c = 0 := fun e => z2 e g
                rw [show min (c + 1) (ml s.n s.w (x3.toNat + 1)).length - (ml s.n s.w x3.toNat).length = (min c (ml s.n s.w (x3.toNat + 1)).length - (ml s.n s.w x3.toNat).length) + 1 by omega, cnt, show (ml s.n s.w x3.toNat).length + (min c (ml s.n s.w (x3.toNat + 1)).length - (ml s.n s.w x3.toNat).length) = c by omega, if_neg g0, Int.add_zero]
              · rw [show min (c + 1) (ml s.n s.w (x3.toNat + 1)).length - (ml s.n s.w x3.toNat).length = min c (ml s.n s.w (x3.toNat + 1)).length - (ml s.n s.w x3.toNat).length by omega])
            refine bX10_stairs_56 ⟨h.1, ?_⟩
            rw [hL.1.1, h.2.1.2.2.2.1, h.2.2.1.2.2.2.1, h.2.2.2.2.2.2.1, show Int.toNat (c : Int) = c by omega, add1 (n := c) (by omega), dc.2]
            refine br_f (by omega) ⟨rfl, ⟨by omega, by omega⟩, fun k0 => no (fun kd hk3 e => absurd (((hk3 c hcl).2.1.mpr (hle.mp k0))) (fun z => z e)), fun k0 => ⟨dc.1, fun dn => no (fun kd hk3 e g => ?_), fun dn => ?_⟩⟩
            · exact dn (by
                have a1 : ¬ dg ((ml s.n s.w x2.toNat).getD c 0) < ((x3.toNat : Nat) : Int) := fun z => by have := i1.mp z; omega
                have a2 := i2.mpr g.2
                omega)
            · have e := Decidable.not_not.mp dn
              rw [w32_id (by omega)]
              refine ih (c + 1) (x + 1) (by omega) (by omega) (by omega) (by omega) (fun kd hk3 => ?_)
              have g1 : ¬ c < (ml s.n s.w x3.toNat).length := fun z => by have := i1.mpr z; omega
              have g2 := i2.mp (by omega)
              have g0 : kd c = 0 := Decidable.of_not_not (fun z => k0 (hle.mpr ((hk3 c hcl).2.1.mp z)))
              rw [hkd kd hk3, show min (c + 1) (ml s.n s.w (x3.toNat + 1)).length - (ml s.n s.w x3.toNat).length = (min c (ml s.n s.w (x3.toNat + 1)).length - (ml s.n s.w x3.toNat).length) + 1 by omega, cnt, show (ml s.n s.w x3.toNat).length + (min c (ml s.n s.w (x3.toNat + 1)).length - (ml s.n s.w x3.toNat).length) = c by omega, if_pos g0]
        exact loop (ml s.n s.w x2.toNat).length 0 0 (by omega) (by omega) (by omega) (by omega) (fun kd _ => by rw [show min 0 (ml s.n s.w (x3.toNat + 1)).length - (ml s.n s.w x3.toNat).length = 0 by omega]; rfl)
      · rw [hx kd hkd, if_pos (Decidable.not_not.mp d)]; rfl
    rw [eN]; exact go
  · rw [if_neg c3]
    exact br_f (by decide) (hq I2 _ o2 ⟨fun z => absurd (show -1 ≤ x3 ∧ x3 ≤ x2 - 1 by have := z.2; omega) c3, fun _ => rfl⟩)
theorem gw_spec {n : Int} {w : Nat → Int} {x : Sh → MI → MR → Int → Prop} (h : RfS S R m) (hw : RfW I m n w) (hq : x S I R (gwt w n.toNat)) : CI G MX10_greatestWeight [vR m] S I R x := by
  have h3 := hw.2.1
  have loop : ∀ (k v : Nat), n.toNat - v = k → (v : Int) ≤ n → 1 ≤ v → LX10_greatestWeight_9 G m (gwt w v) (v : Int) S I R x := by
    intro k
    induction k with
    | zero =>
      intro v hk hv _
      refine bX10_greatestWeight_9 ⟨h.1, ?_⟩
      rw [hw.1]
      exact br_t (by omega) (by rw [show v = n.toNat by omega]; exact hq)
    | succ k ih =>
      intro v hk hv hv1
      refine bX10_greatestWeight_9 ⟨h.1, ?_⟩
      rw [hw.1, h.2.1.1.1, h.2.2.1.1.1, h.2.2.2.1.1, add1 (by omega), show Int.toNat (v : Int) = v by omega, hw.2.2.1 v (by omega)]
      have e : gwt w (v + 1) = max (gwt w v) (w v) := rfl
      have nx := ih (v + 1) (by omega) (by omega) (by omega)
      rw [e] at nx
      refine br_f (by omega) ⟨rfl, ⟨by omega, by omega⟩, fun c => ?_, fun c => ?_⟩
      · rw [show max (gwt w v) (w v) = gwt w v by omega] at nx; exact nx
      · rw [show max (gwt w v) (w v) = w v by omega] at nx; exact nx
  refine bX10_greatestWeight ⟨h.1, ?_⟩
  have w0 := hw.2.2.2 0 (by omega)
  rw [h.2.1.1.1, h.2.2.1.1.1, h.2.2.2.1.1, show Int.toNat 0 = 0 from rfl, hw.2.2.1 0 (by omega)]
  have := loop (n.toNat - 1) 1 rfl (by omega) (Nat.le_refl _)
  rw [show gwt w 1 = w 0 by show max 0 (w 0) = w 0; omega] at this
  exact ⟨rfl, by omega, this⟩
theorem isSettled_spec {n : Int} {w : Nat → Int} {pr N : Nat} {F : List Tm → Prop} {x : Sh → MI → MR → Int → Prop} (h : RfS S R m) (hw : RfW I m n w) (h2 : (2 : Int) ≤ (pr : Int)) (hN : (N : Int) ≤ bd n) (hL : LdR I m (pr : Int) n w N (GenU (pr : Int) n w F N))
    (hq : ∀ y, (∀ kd, KdU (pr : Int) n w F N kd → (y ≠ 0 ↔ stl n w kd N)) → x S I R y) : CI G MX10_isSettled [vR m, vI (N : Int)] S I R x := by
  have hl := ml_120 hw.2.1 hw.2.2.2 hN
  have hb := bd_n n
  have hg := gwt_r hw.2.2.2 n.toNat (by have := hw.2.1; omega)
  have l1 := ml_le (n := n) (w := w) (N := N - (gwt w n.toNat).toNat) (D := N) (by omega)
  have loop : ∀ (q c : Nat), (ml n w N).length - c = q → c ≤ (ml n w N).length → (∀ j, j < c → (ml n w (N - (gwt w n.toNat).toNat)).length ≤ j → led (pr : Int) n w F N j) → LX10_isSettled_2 G m (N : Int) (c : Int) S I R x := by
    intro q
    induction q with
    | zero =>
      intro c hq1 hc hno
      refine bX10_isSettled_2 ⟨h.1, ?_⟩
      rw [hL.1.1]
      refine br_t (by omega) (hq 1 (fun kd hk => ⟨fun _ => ?_, fun _ => by decide⟩))
      exact cnt_0.mpr (fun j h1 h2 => (hk j (by omega)).2.1.mpr (hno j (by omega) h1))
    | succ q ih =>
      intro c hq1 hc hno
      have hcl : c < (ml n w N).length := by omega
      have hle := hL.led h2 hcl
      have dc := v10da h hw hL.1 (ml_kOK (by omega)) (by omega) hcl
      have i1 := ml_idx (N := N) (d := N - (gwt w n.toNat).toNat) hw.2.2.2 (by omega) (by omega) hcl
      refine bX10_isSettled_2 ⟨h.1, ?_⟩
      rw [hL.1.1, h.2.1.2.2.2.1, h.2.2.1.2.2.2.1, h.2.2.2.2.2.2.1, show Int.toNat (c : Int) = c by omega, add1 (n := c) (by omega), dc.2]
      have nx : ((ml n w (N - (gwt w n.toNat).toNat)).length ≤ c → led (pr : Int) n w F N c) → LX10_isSettled_2 G m (N : Int) ((c + 1 : Nat) : Int) S I R x := fun z => ih (c + 1) (by omega) (by omega) (fun j hj => by
        by_cases e : j = c
        · rw [e]; exact z
        · exact hno j (by omega))
      refine br_f (by omega) ⟨rfl, ⟨by omega, by omega⟩, fun k0 => nx (fun _ => hle.mp k0), fun k0 => ⟨dc.1, gw_spec h hw ⟨fun d => nx (fun z => ?_), fun d => hq 0 (fun kd hk => ⟨fun z => absurd rfl z, fun z => ?_⟩)⟩⟩⟩
      · rw [w32_id (by omega)] at d
        have r := of_mem (by omega) (getDl_mem hcl)
        have := i1.mp (by omega)
        omega
      · rw [w32_id (by omega)] at d
        have g : ¬ c < (ml n w (N - (gwt w n.toNat).toNat)).length := fun z => by
          have := i1.mpr z
          have r := of_mem (by omega) (getDl_mem hcl)
          omega
        have := cnt_0.mp z c (by omega) (by omega)
        exact absurd (hle.mpr ((hk c hcl).2.1.mp this)) k0
  exact bX10_isSettled (loop (ml n w N).length 0 (by omega) (by omega) (fun j hj => absurd hj (Nat.not_lt_zero _)))
end RQ
