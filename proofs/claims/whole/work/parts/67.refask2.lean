/-! ===== X10: length, number, rest, all ===== -/
abbrev slt (x : Int) : Prop := 0 ≤ x ∧ x < 8
abbrev set8 (x : Int) : Prop := 0 ≤ x ∧ x < 256
def put (s : Ms) (k : Nat) (L : List Tm) : Ms := (s.1, upT s.2.1 k L, s.2.2)
theorem put_ok {s : Ms} {k : Nat} {L : List Tm} (hs : MsOK s) (hL : okQ (s.p : Int) s.n s.w L) : MsOK (put s k L) :=
  ⟨hs.1, hs.2.1, hs.2.2.1, fun j hj => by
    show okQ (s.p : Int) s.n s.w (if j = k then L else s.2.1 j)
    by_cases q : j = k
    · rw [if_pos q]; exact hL
    · rw [if_neg q]; exact hs.2.2.2.1 j hj, hs.2.2.2.2⟩
def NumF (s : Ms) (a : Nat) (what : Int) : List Tm → Prop := fun g => (∃ v : Nat, (v : Int) < s.n ∧ g = derL (s.p : Int) s.w (v : Int) (s.f a)) ∨ (what = 1 ∧ g = s.f a)
def lengthA (s : Ms) (x1 x2 x : Int) : Prop := (set8 x1 ∧ 0 ≤ x2 ∧ x2 ≤ 1 → ∀ kd, KdU (s.p : Int) s.n s.w (FF s x1) (bd s.n).toNat kd → lenA s.n s.w kd x2 x) ∧ (¬ (set8 x1 ∧ 0 ≤ x2 ∧ x2 ≤ 1) → x = -1)
def numberA (s : Ms) (x1 x2 x : Int) : Prop := (slt x1 ∧ 0 ≤ x2 ∧ x2 ≤ 1 → ∀ kd, KdU (s.p : Int) s.n s.w (NumF s x1.toNat x2) (bd s.n).toNat kd → lenA s.n s.w kd 1 x) ∧ (¬ (slt x1 ∧ 0 ≤ x2 ∧ x2 ≤ 1) → x = -1)
def allA (s : Ms) (x1 x2 x : Int) : Prop := ((1 ≤ x1 ∧ x1 ≤ bd s.n) ∧ 0 ≤ x2 ∧ x2 ≤ 1 → x = if x2 = 0 then ((ml s.n s.w x1.toNat).length : Int) else ((ml s.n s.w (x1.toNat + 1)).length : Int) - ((ml s.n s.w x1.toNat).length : Int)) ∧ (¬ ((1 ≤ x1 ∧ x1 ≤ bd s.n) ∧ 0 ≤ x2 ∧ x2 ≤ 1) → x = -1)
def restA (s : Ms) (x1 x2 x3 x4 x : Int) (s' : Ms) : Prop := (slt x1 ∧ slt x4 ∧ ask s x2 x3 → (∃ K Rw, EchU (s.p : Int) (ml s.n s.w x3.toNat).length K Rw (GenU (s.p : Int) s.n s.w (FF s x2) x3.toNat)) ∧ ∃ z, RstU (s.p : Int) (ml s.n s.w x3.toNat).length (led (s.p : Int) s.n s.w (FF s x2) x3.toNat) (GenU (s.p : Int) s.n s.w (FF s x2) x3.toNat) (vecM (ml s.n s.w x3.toNat) (cf (s.f x1.toNat))) z ∧ (∀ c, c < (ml s.n s.w x3.toNat).length → 0 ≤ z c ∧ z c < (s.p : Int)) ∧ ((restL (ml s.n s.w x3.toNat) z (ml s.n s.w x3.toNat).length).length ≤ 60 → x = ((restL (ml s.n s.w x3.toNat) z (ml s.n s.w x3.toNat).length).length : Int) ∧ s' = put s x4.toNat (restL (ml s.n s.w x3.toNat) z (ml s.n s.w x3.toNat).length)) ∧ (60 < (restL (ml s.n s.w x3.toNat) z (ml s.n s.w x3.toNat).length).length → x = -1 ∧ s' = s)) ∧ (¬ (slt x1 ∧ slt x4 ∧ ask s x2 x3) → x = -1 ∧ s' = s)
theorem NumF.ok {s : Ms} (hs : MsOK s) {a : Nat} (ha : a < 8) {what : Int} : ∀ g, NumF s a what g → okQ (s.p : Int) s.n s.w g := by
  rintro g (⟨v, hv, e⟩ | ⟨_, e⟩)
  · rw [e]; exact derL_ok (by have := hs.1.1.1; omega) hs.2.2.1 hs.2.1 hv (hs.2.2.2.1 a ha)
  · rw [e]; exact hs.2.2.2.1 a ha
/-- the rest's terms -/
theorem restL_mem {M : List Int} {z : Vc} : ∀ {c : Nat} {t : Tm}, t ∈ restL M z c → ∃ j, j < c ∧ t = (M.getD j 0, z j) ∧ z j ≠ 0
  | 0, t, h => absurd h List.not_mem_nil
  | c + 1, t, h => by
    rw [restL] at h
    rcases List.mem_append.mp h with q | q
    · obtain ⟨j, hj, e⟩ := restL_mem q
      exact ⟨j, by omega, e⟩
    · by_cases e : z c = 0
      · rw [if_pos e] at q; exact absurd q List.not_mem_nil
      · rw [if_neg e] at q
        exact ⟨c, by omega, List.mem_singleton.mp q, e⟩
theorem restL_srt {M : List Int} {z : Vc} (hi : Inc M) : ∀ {c : Nat}, c ≤ M.length → Srt (restL M z c)
  | 0, _ => List.Pairwise.nil
  | c + 1, h => by
    rw [restL]
    by_cases e : z c = 0
    · rw [if_pos e, List.append_nil]; exact restL_srt hi (by omega)
    · rw [if_neg e]
      refine List.pairwise_append.mpr ⟨restL_srt hi (by omega), List.pairwise_singleton _ _, fun a ha b hb => ?_⟩
      obtain ⟨j, hj, e1, -⟩ := restL_mem ha
      rw [List.mem_singleton.mp hb, e1]
      exact inc_nd hi (by omega) (by omega) hj
theorem restL_ok {p n : Int} {w : Nat → Int} {N : Nat} {z : Vc} {c : Nat} (hN : N ≤ 24) (hc : c ≤ (ml n w N).length) (hz : ∀ j, j < (ml n w N).length → 0 ≤ z j ∧ z j < p) : Can p (restL (ml n w N) z c) ∧ ∀ t ∈ restL (ml n w N) z c, okK n w t.1 := by
  refine ⟨⟨restL_srt (ml_inc (by omega)) hc, fun t ht => ?_⟩, fun t ht => ?_⟩
  · obtain ⟨j, hj, e, h0⟩ := restL_mem ht
    have := hz j (by omega)
    rw [e]; show 0 < z j ∧ z j < p; omega
  · obtain ⟨j, hj, e, h0⟩ := restL_mem ht
    have hm : (ml n w N).getD j 0 ∈ ml n w N := getDl_mem (by omega)
    have o := of_mem (by omega) hm
    have r := ex_r ((ml n w N).getD j 0)
    have hd := o.2.2
    rw [e]
    show okK n w ((ml n w N).getD j 0)
    unfold dg at hd
    refine ⟨⟨by omega, by omega, by omega, by omega, by omega⟩, ?_, o.1, o.2.1⟩
    unfold hi; omega
section RQ2
variable {G : Gl} {S : Sh} {R : MR} {m : Nat} {s : Ms} {I : MI} {Q : Sh → MI → MR → Int → Prop}
theorem p10slot (h : RfS S R m) {x : Int} (hx : InR x) : pX10_isSlot S m x := ⟨h.1, isIn_01 (inl_r hx) (inl_n (by omega)) (inl_n (by omega)), trivial⟩
theorem v10slot {x : Int} (hx : InR x) : vX10_isSlot m x ≠ 0 ↔ slt x := by
  unfold vX10_isSlot slt
  rw [isIn_eq (inl_r hx) (inl_n (by omega)) (inl_n (by omega))]
  by_cases c : 0 ≤ x ∧ x ≤ 7
  · rw [if_pos c]; exact ⟨fun _ => by omega, fun _ => by decide⟩
  · rw [if_neg c]; exact ⟨fun z => absurd rfl z, fun z => absurd (show 0 ≤ x ∧ x ≤ 7 by omega) c⟩
theorem v10in {x lo hi : Int} (hx : InR x) (hl : -1000000 ≤ lo ∧ lo ≤ 1000000) (hh : -1000000 ≤ hi ∧ hi ≤ 1000000) : vX10_isIn m x lo hi ≠ 0 ↔ lo ≤ x ∧ x ≤ hi := by
  rw [isIn_eq (inl_r hx) (inl_n hl) (inl_n hh)]
  by_cases c : lo ≤ x ∧ x ≤ hi
  · rw [if_pos c]; exact ⟨fun _ => c, fun _ => by decide⟩
  · rw [if_neg c]; exact ⟨fun z => absurd rfl z, fun z => absurd z c⟩
theorem ref_length (h : RfS S R m) (hs : MsOK s) (hv : RefV I m s) {x1 x2 : Int} (r1 : InR x1) (r2 : InR x2) (hq : ∀ I' x, offS I I' m → lengthA s x1 x2 x → Q S I' R x) : CI G MX10_length [vR m, vI x1, vI x2] S I R Q := by
  have hb := bd_n s.n
  refine bX10_length ⟨h.1, fun I2 e2 => ?_⟩
  have o2 : offS I I2 m := offS.u e2 (Or.inl rfl)
  have v1 := v10in (m := m) r1 (lo := 0) (hi := 255) (by omega) (by omega)
  have v2 := v10in (m := m) r2 (lo := 0) (hi := 1) (by omega) (by omega)
  refine ⟨fun c => hq I2 _ o2 ⟨fun z => absurd c (v1.mpr (by have := z.1; unfold set8 at this; omega)), fun _ => rfl⟩, fun c => ⟨fun c2 => ?_, fun c2 => hq I2 _ o2 ⟨fun z => absurd (v2.mpr z.2) c2, fun _ => rfl⟩⟩⟩
  have h1 := v1.mp c
  have h2 := v2.mp c2
  have hcond : set8 x1 ∧ 0 ≤ x2 ∧ x2 ≤ 1 := ⟨by unfold set8; omega, h2⟩
  have loop : ∀ (q N : Nat) (I1 : MI), (bd s.n).toNat + 1 - N = q → 1 ≤ N → N ≤ (bd s.n).toNat + 1 → offS I I1 m → (∀ kd, KdU (s.p : Int) s.n s.w (FF s x1) (bd s.n).toNat kd → ∀ j, 1 ≤ j → j < N → ¬ stl s.n s.w kd j) → LX10_length_33 G m x1 x2 (N : Int) S I1 R Q := by
    intro q
    induction q with
    | zero =>
      intro N I1 hq1 hN1 hN ho hno
      have hv1 := hv.oS hs ho
      refine bX10_length_33 ⟨h.1, ⟨h.1, trivial⟩, ?_⟩
      rw [v10bound hv1.1]
      refine br_t (by omega) (hq I1 _ ho ⟨fun _ kd hk => ⟨-1, Or.inl ⟨rfl, fun j a b => hno kd hk j a (by omega)⟩, ?_⟩, fun z => absurd hcond z⟩)
      by_cases e : x2 = 0
      · rw [if_pos e]
      · rw [if_neg e, if_pos rfl]
    | succ q ih =>
      intro N I1 hq1 hN1 hN ho hno
      have hv1 := hv.oS hs ho
      refine bX10_length_33 ⟨h.1, ⟨h.1, trivial⟩, ?_⟩
      rw [v10bound hv1.1, add1 (n := N) (by omega)]
      refine br_f (by omega) (lays_s h hs hv1 ⟨hcond.1, by omega, by omega⟩ (fun I3 o3 hv3 hL => ⟨h.1, isSettled_spec h hv3.1 (p2le hs) (by omega) hL (fun y hy => ⟨fun y0 => ?_, fun y0 => ⟨fun e => ⟨h.1, found_spec h hv3.1 (p2le hs) (by omega) (FF.ok hs) hL (Or.inl rfl) ⟨by omega, by omega⟩ (fun x hx _ => ?_)⟩, fun e => ?_⟩⟩)⟩))
      · refine ih (N + 1) I3 (by omega) (by omega) (by omega) (ho.tr o3.toS) (fun kd hk j a b => ?_)
        by_cases hjN : j = N
        · rw [hjN]
          exact fun z => ((hy kd (hk.down hs.2.2.1 hs.2.1 (by omega) (by omega) (FF.ok hs))).mpr z) y0
        · exact hno kd hk j a (by omega)
      · refine hq I3 _ (ho.tr o3.toS) ⟨fun _ kd hk => ⟨(N : Int), Or.inr ⟨N, rfl, hN1, by omega, (hy kd (hk.down hs.2.2.1 hs.2.1 (by omega) (by omega) (FF.ok hs))).mp y0, hno kd hk⟩, ?_⟩, fun z => absurd hcond z⟩
        rw [if_neg e, if_neg (by omega), hx kd (hk.down hs.2.2.1 hs.2.1 (by omega) (by omega) (FF.ok hs)), show Int.toNat (N : Int) = N by omega]; rfl
      · refine hq I3 _ (ho.tr o3.toS) ⟨fun _ kd hk => ⟨(N : Int), Or.inr ⟨N, rfl, hN1, by omega, (hy kd (hk.down hs.2.2.1 hs.2.1 (by omega) (by omega) (FF.ok hs))).mp y0, hno kd hk⟩, ?_⟩, fun z => absurd hcond z⟩
        rw [if_pos (Decidable.not_not.mp e)]
  exact loop (bd s.n).toNat 1 I2 (by omega) (by omega) (by omega) o2 (fun kd _ j a b => by omega)
theorem ref_number (h : RfS S R m) (hs : MsOK s) (hv : RefV I m s) {x1 x2 : Int} (r1 : InR x1) (r2 : InR x2) (hq : ∀ I' x, offS I I' m → numberA s x1 x2 x → Q S I' R x) : CI G MX10_number [vR m, vI x1, vI x2] S I R Q := by
  have hb := bd_n s.n
  refine bX10_number ⟨h.1, fun I2 e2 => ⟨p10slot h r1, ?_⟩⟩
  have o2 : offS I I2 m := offS.u e2 (Or.inl rfl)
  have v1 := v10slot (m := m) r1
  have v2 := v10in (m := m) r2 (lo := 0) (hi := 1) (by omega) (by omega)
  refine ⟨fun c => hq I2 _ o2 ⟨fun z => absurd c (v1.mpr z.1), fun _ => rfl⟩, fun c => ⟨fun c2 => ?_, fun c2 => hq I2 _ o2 ⟨fun z => absurd (v2.mpr z.2) c2, fun _ => rfl⟩⟩⟩
  have h1 := v1.mp c
  have h2 := v2.mp c2
  have hcond : slt x1 ∧ 0 ≤ x2 ∧ x2 ≤ 1 := ⟨h1, h2⟩
  unfold slt at h1
  have ea : x1 = ((x1.toNat : Nat) : Int) := by omega
  have ha : x1.toNat < 8 := by omega
  have okf := hs.2.2.2.1 x1.toNat ha
  have hF := NumF.ok hs ha (what := x2)
  have go : LX10_number_28 G m ((x1.toNat : Nat) : Int) x2 1 S I2 R Q := by
    have loop : ∀ (q N : Nat) (I1 : MI), (bd s.n).toNat + 1 - N = q → 1 ≤ N → N ≤ (bd s.n).toNat + 1 → offS I I1 m → (∀ kd, KdU (s.p : Int) s.n s.w (NumF s x1.toNat x2) (bd s.n).toNat kd → ∀ j, 1 ≤ j → j < N → ¬ stl s.n s.w kd j) → LX10_number_28 G m ((x1.toNat : Nat) : Int) x2 (N : Int) S I1 R Q := by
      intro q
      induction q with
      | zero =>
        intro N I1 hq1 hN1 hN ho hno
        have hv1 := hv.oS hs ho
        refine bX10_number_28 ⟨h.1, ⟨h.1, trivial⟩, ?_⟩
        rw [v10bound hv1.1]
        refine br_t (by omega) (hq I1 _ ho ⟨fun _ kd hk => ⟨-1, Or.inl ⟨rfl, fun j a b => hno kd hk j a (by omega)⟩, ?_⟩, fun z => absurd hcond z⟩)
        rw [if_neg (by decide), if_pos rfl]
      | succ q ih =>
        intro N I1 hq1 hN1 hN ho hno
        have hv1 := hv.oS hs ho
        have hNb : (N : Int) ≤ bd s.n := by omega
        have hl := ml_120 hs.2.1 hs.2.2.1 hNb
        have hGS : Sub (s.p : Int) (ml s.n s.w N).length (GenU (s.p : Int) s.n s.w (NumF s x1.toNat x2) N) := spn_sub
        -- all is laid
        have fin : ∀ (J : MI), offS I J m → LdR J m (s.p : Int) s.n s.w N (GenU (s.p : Int) s.n s.w (NumF s x1.toNat x2) N) → LX10_number_93 G m ((x1.toNat : Nat) : Int) x2 (N : Int) S J R Q := by
          intro J oJ hL
          have hvJ := hv.oS hs oJ
          refine bX10_number_93 ⟨h.1, isSettled_spec h hvJ.1 (p2le hs) hNb hL (fun y hy => ⟨fun y0 => ?_, fun y0 => ⟨h.1, found_spec h hvJ.1 (p2le hs) hNb hF hL (Or.inl rfl) ⟨by omega, by omega⟩ (fun x hx _ => ?_)⟩⟩)⟩
          · rw [add1 (n := N) (by omega)]
            refine ih (N + 1) J (by omega) (by omega) (by omega) oJ (fun kd hk j a b => ?_)
            by_cases hjN : j = N
            · rw [hjN]
              exact fun z => ((hy kd (hk.down hs.2.2.1 hs.2.1 (by omega) (by omega) hF)).mpr z) y0
            · exact hno kd hk j a (by omega)
          · refine hq J _ oJ ⟨fun _ kd hk => ⟨(N : Int), Or.inr ⟨N, rfl, hN1, by omega, (hy kd (hk.down hs.2.2.1 hs.2.1 (by omega) (by omega) hF)).mp y0, hno kd hk⟩, ?_⟩, fun z => absurd hcond z⟩
            rw [if_neg (by decide), if_neg (by omega), hx kd (hk.down hs.2.2.1 hs.2.1 (by omega) (by omega) hF), show Int.toNat (N : Int) = N by omega]; rfl
        have eqU : ∀ (U : Vc → Prop), Sub (s.p : Int) (ml s.n s.w N).length U → (∀ y, U y → GenU (s.p : Int) s.n s.w (NumF s x1.toNat x2) N y) → (∀ g, NumF s x1.toNat x2 g → ∀ k ∈ ml s.n s.w N, U (vecM (ml s.n s.w N) (shf k (cf g)))) → U = GenU (s.p : Int) s.n s.w (NumF s x1.toNat x2) N := fun U hU h1 h2 => by
          funext y
          refine propext ⟨h1 y, fun hy => spn_le hU (fun t ht => ?_) hy⟩
          obtain ⟨g, k, hg, hk, e⟩ := ht
          rw [e]; exact h2 g hg k hk
        have inner : ∀ (q v : Nat) (J : MI) (U : Vc → Prop), s.n.toNat - v = q → (v : Int) ≤ s.n → offS I J m → LdR J m (s.p : Int) s.n s.w N U → (∀ y, U y → GenU (s.p : Int) s.n s.w (NumF s x1.toNat x2) N y) → (∀ j : Nat, j < v → ∀ k ∈ ml s.n s.w N, U (vecM (ml s.n s.w N) (shf k (cf (derL (s.p : Int) s.w (j : Int) (s.f x1.toNat)))))) → LX10_number_44 G m ((x1.toNat : Nat) : Int) x2 (N : Int) (v : Int) S J R Q := by
          intro q
          induction q with
          | zero =>
            intro v J U hq2 hvn oJ hL hU hg
            have hvJ := hv.oS hs oJ
            refine bX10_number_44 ⟨h.1, ?_⟩
            rw [hvJ.1.1]
            refine br_t (by omega) ⟨fun e => fin J oJ ?_, fun e => ?_⟩
            · rw [← eqU U hL.2.1.sub hU (fun g hg2 k hk => ?_)]
              · exact hL
              · rcases hg2 with ⟨v2, hv2, eg⟩ | ⟨ew, eg⟩
                · rw [eg]; exact hg v2 (by omega) k hk
                · exact absurd ew e
            · have e' := Decidable.not_not.mp e
              refine addsAll_spec h hvJ.1 hvJ.2.1 hs.1.1 (by omega) hN1 hl hL.1 hL.2 (hvJ.2.2.1 _ ha) (by omega) okf (fun I3 U3 o3 hE3 s1 s2 s3 => fin I3 (oJ.tr o3.toD.toS) ?_)
              rw [← eqU U3 hE3.1.sub (s3 _ hGS hU (fun k hk => spn_in ⟨_, k, Or.inr ⟨e', rfl⟩, hk, rfl⟩)) (fun g hg2 k hk => ?_)]
              · exact ⟨hL.1.oB o3, hE3⟩
              · rcases hg2 with ⟨v2, hv2, eg⟩ | ⟨ew, eg⟩
                · rw [eg]; exact s1 _ (hg v2 (by omega) k hk)
                · rw [eg]; exact s2 k hk
          | succ q ih2 =>
            intro v J U hq2 hvn oJ hL hU hg
            have hvJ := hv.oS hs oJ
            have hv1n : (v : Int) < s.n := by omega
            have okD := derL_ok (v := v) (by have := hs.1.1.1; omega) hs.2.2.1 hs.2.1 hv1n okf
            refine bX10_number_44 ⟨h.1, ?_⟩
            rw [hvJ.1.1]
            refine br_f (by omega) (heapsPart_spec h hvJ.1 hvJ.2.1 (hvJ.2.2.1 _ ha) (by omega) okf hv1n (fun J2 oJ2 hH => ⟨h.1, takes_spec (r := 291) h hH (by omega) (by have := okD.2.2; omega) (fun J3 _ oJ3 hR => br_f (by decide) ⟨h.1, ?_⟩) (fun hn => absurd ?_ hn)⟩))
            · have oS3 := (oJ.tr oJ2.toS).tr (oJ3.toS (by omega))
              have hvJ3 := hv.oS hs oS3
              rw [nz_id okD.1.2] at hR
              have hL3 : LdR J3 m (s.p : Int) s.n s.w N U := by
                have e11 : J3 (m + 11) = J (m + 11) := by rw [oJ3.1 _ (by omega) (by omega) (by omega), oJ2.1 _ (by omega) (by omega) (by omega)]
                have e12 : J3 (m + 12) = J (m + 12) := by rw [oJ3.1 _ (by omega) (by omega) (by omega), oJ2.1 _ (by omega) (by omega) (by omega)]
                have e13 : J3 (m + 13) = J (m + 13) := by rw [oJ3.1 _ (by omega) (by omega) (by omega), oJ2.1 _ (by omega) (by omega) (by omega)]
                have e28 : J3 m 28 = J m 28 := by rw [oJ3.1 m (by omega) (by omega) (by omega), oJ2.2 28 (by omega)]
                exact ⟨hL.1.o e28 e11, hL.2.o e12 e13⟩
              refine addsAll_spec (r := 291) h hvJ3.1 hvJ3.2.1 hs.1.1 (by omega) hN1 hl hL3.1 hL3.2 hR (by omega) okD (fun I3 U3 o3 hE3 s1 s2 s3 => ?_)
              rw [add1 (n := v) (by have := hs.2.1; omega)]
              refine ih2 (v + 1) I3 U3 (by omega) (by omega) (oS3.tr o3.toD.toS) ⟨hL3.1.oB o3, hE3⟩ (s3 _ hGS hU (fun k hk => spn_in ⟨_, k, Or.inl ⟨v, hv1n, rfl⟩, hk, rfl⟩)) (fun j hj k hk => ?_)
              by_cases hjv : j = v
              · rw [hjv]; exact s2 k hk
              · exact s1 _ (hg j (by omega) k hk)
            · rw [nz_id okD.1.2]
              exact ⟨okD.2.2, fun t ht => (okD.2.1 t ht).2.1⟩
        refine bX10_number_28 ⟨h.1, ⟨h.1, trivial⟩, ?_⟩
        rw [v10bound hv1.1]
        refine br_f (by omega) (beginsIdeal_spec h hv1.1 hv1.2.1 hNb (fun J oJ hL => inner s.n.toNat 0 J _ (by omega) (by have := hs.2.1; omega) (ho.tr oJ.toS) hL (fun y hy => ?_) (fun j hj => absurd hj (Nat.not_lt_zero _))))
        exact hGS.2.2.2 _ _ (fun j hj => by show (0 : Int) % (s.p : Int) = y j % (s.p : Int); rw [emz.mpr (hy j hj)]; exact Int.zero_emod _) hGS.1
    exact loop (bd s.n).toNat 1 I2 (by omega) (by omega) (by omega) o2 (fun kd _ j a b => by omega)
  rw [ea]; exact go
theorem ref_all (h : RfS S R m) (hs : MsOK s) (hv : RefV I m s) {x1 x2 : Int} (r1 : InR x1) (r2 : InR x2) (hq : ∀ I' x, offS I I' m → allA s x1 x2 x → Q S I' R x) : CI G MX10_all [vR m, vI x1, vI x2] S I R Q := by
  have hb := bd_n s.n
  refine bX10_all ⟨h.1, fun I2 e2 => ⟨⟨h.1, trivial⟩, ?_⟩⟩
  have o2 : offS I I2 m := offS.u e2 (Or.inl rfl)
  have hv2 := hv.oS hs o2
  rw [v10bound hv2.1]
  have v1 := v10in (m := m) r1 (lo := 1) (hi := bd s.n) (by omega) (by omega)
  have v2 := v10in (m := m) r2 (lo := 0) (hi := 1) (by omega) (by omega)
  refine ⟨fun c => hq I2 _ o2 ⟨fun z => absurd c (v1.mpr z.1), fun _ => rfl⟩, fun c => ⟨fun c2 => ?_, fun c2 => hq I2 _ o2 ⟨fun z => absurd (v2.mpr z.2) c2, fun _ => rfl⟩⟩⟩
  have h1 := v1.mp c
  have h2 := v2.mp c2
  have ea : x1 = ((x1.toNat : Nat) : Int) := by omega
  have lb := (ml_bd hs.2.1 hs.2.2.1).2
  have l1 := ml_le (n := s.n) (w := s.w) (N := x1.toNat) (D := (bd s.n).toNat + 1) (by omega)
  have l2 := ml_le (n := s.n) (w := s.w) (N := x1.toNat + 1) (D := (bd s.n).toNat + 1) (by omega)
  have lm := ml_le (n := s.n) (w := s.w) (N := x1.toNat) (D := x1.toNat + 1) (by omega)
  have one : ∀ (J : MI) (N : Nat) (P : Sh → MI → MR → Int → Prop), RefV J m s → N ≤ 25 → (ml s.n s.w N).length ≤ 165 → (∀ J2, offS J J2 m → P S J2 R ((ml s.n s.w N).length : Int)) → CI G MX10_allOf [vR m, vI (N : Int)] S J R P := by
    intro J N P hvJ hN hl hP
    refine bX10_allOf ⟨h.1, laysMonomials_spec h hvJ.1 hvJ.2.1 hN hl (fun J2 o hM => ⟨h.1, ?_⟩)⟩
    rw [hM.1]; exact hP J2 o.toD.toS
  have go : CI G MX10_allOf [vR m, vI ((x1.toNat : Nat) : Int)] S I2 R (fun S35 I35 R35 x35_ => ((x2 ≠ 0 → (sT S35 m = 10 ∧ (CI G MX10_allOf [vR m, vI (w32 (x1 + 1))] S35 I35 R35 (fun S51 I51 R51 x51_ => Q S51 I51 R51 (w32 (x51_ - x35_)))))) ∧ (¬ (x2 ≠ 0) → Q S35 I35 R35 x35_))) := by
    refine one I2 x1.toNat _ hv2 (by omega) (by omega) (fun J2 o => ⟨fun e => ⟨h.1, ?_⟩, fun e => hq J2 _ (o2.tr o) ⟨fun _ => by rw [if_pos (Decidable.not_not.mp e)], fun z => absurd ⟨h1, h2⟩ z⟩⟩)
    rw [w32_id (by omega), show x1 + 1 = ((x1.toNat + 1 : Nat) : Int) by omega]
    refine one J2 (x1.toNat + 1) _ (hv2.oS hs o) (by omega) (by omega) (fun J3 o3 => hq J3 _ ((o2.tr o).tr o3) ⟨fun _ => ?_, fun z => absurd ⟨h1, h2⟩ z⟩)
    rw [if_neg e, w32_id (by omega)]
  rw [ea]
  rw [ea] at go
  rw [show (((x1.toNat : Nat) : Int).toNat) = x1.toNat by omega] at go
  exact go
end RQ2
