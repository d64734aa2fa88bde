/-! ===== X2: generators, products ===== -/
section R2f
variable {G : Gl} {S : Sh} {R : MR} {i r pa nu nl : Nat} {pr : Nat} {n bits : Int} {w : Nat → Int} {P : Nat → Nat} {f : Nat → List Tm} {Q : Sh → MI → MR → Prop}
theorem RingT.ofI {I I' : MI} (h : RingT I r n w) (ho : offI I I' i) (ha : apR r i (i + 123)) : RingT I' r n w := by
  unfold apR at ha
  exact h.o (ho r (by omega)) (fun b h1 h2 => ho b (by omega))
theorem NumS.ofI {I I' : MI} {p : Int} (h : NumS S I nu p) (ho : offI I I' i) (ha : nu < i ∨ i + 123 < nu) : NumS S I' nu p := ⟨h.1, by rw [ho nu (by omega)]; exact h.2.1, h.2.2⟩
theorem Has.ofI {I I' : MI} {a : Nat} {L : List Tm} (h : Has I a L) (ho : offI I I' i) (ha : a + 2 < i ∨ i + 123 < a) : Has I' a L := by
  refine ⟨by rw [ho a (by omega)]; exact h.1, fun j t ht => ?_⟩
  rw [ho (a + 1) (by omega), ho (a + 2) (by omega)]
  exact h.2 j t ht
/-- the new rows are made, all of them -/
theorem build_close {I : MI} {F : List Tm → Prop} {U : Vc → Prop} (h : IdS S R i) (hr : RingL S R r) (hra : apR r i (i + 123)) (hrt : RingT I r n w) (hF : ∀ g, F g → okQ (pr : Int) n w g) (hnu : R r 1 = nu) (hN : NumS S I nu (pr : Int)) (pp : isP pr) (an : nu < i ∨ i + 123 < nu)
    (hE : EchI I i (pr : Int) (mB n w).length U) (hg : ∀ g, F g → U (vecM (mB n w) (cf g))) (hU : ∀ y, U y → GenU (pr : Int) n w F (bd n).toNat y)
    (hq : ∀ I', offI I I' i → EchI I' i (pr : Int) (mB n w).length (GenU (pr : Int) n w F (bd n).toNat) → LX2_build_141 G i r ((mB n w).length : Int) 0 S I' R Q) : LX2_build_67 G i r ((mB n w).length : Int) 0 S I R Q := by
  have hb := bd_n n
  have hw := hrt.1.2.2.2
  have hn := hrt.1.2.1
  have hl : (mB n w).length ≤ 120 := (ml_bd hn hw).1
  have hinc : Inc (mB n w) := ml_inc (by omega)
  have hp := hN.2.2
  let T : MI → Nat → Nat → (Vc → Prop) → Prop := fun I1 c v U1 => EchI I1 i (pr : Int) (mB n w).length U1 ∧ (∀ g, F g → U1 (vecM (mB n w) (cf g))) ∧ (∀ y, U1 y → GenU (pr : Int) n w F (bd n).toNat y) ∧ ∀ c0 v0 : Nat, c0 < (mB n w).length → I1 (i + 122) c0 ≠ 0 → (v0 : Int) < n → (c0 < c ∨ (c0 = c ∧ v0 < v)) → U1 (mulv (mB n w) (vkey w (v0 : Int)) (I1 (i + 2 + c0)))
  have inner : ∀ (k v c : Nat) (I1 : MI) (U1 : Vc → Prop), n.toNat - v = k → (v : Int) ≤ n → c < (mB n w).length → offI I I1 i → T I1 c v U1 → (∀ I2 U2, offI I I2 i → T I2 (c + 1) 0 U2 → LX2_build_67 G i r ((mB n w).length : Int) ((c + 1 : Nat) : Int) S I2 R Q) → LX2_build_77 G i r ((mB n w).length : Int) (c : Int) (v : Int) S I1 R Q := by
    intro k
    induction k with
    | zero =>
      intro v c I1 U1 hk hv hc ho hT hout
      have hrt1 := hrt.ofI ho hra
      refine bX2_build_77 ⟨hr.1, ?_⟩
      rw [hrt1.1.1, add1 (by omega)]
      exact br_t (by omega) (hout I1 U1 ho ⟨hT.1, hT.2.1, hT.2.2.1, fun c0 v0 a b d e => hT.2.2.2 c0 v0 a b d (by omega)⟩)
    | succ k ih =>
      intro v c I1 U1 hk hv hc ho hT hout
      have rv := hr.2.2.2.2 v (by omega)
      have hrt1 := hrt.ofI ho hra
      have hN1 := hN.ofI ho an
      refine bX2_build_77 ⟨hr.1, ?_⟩
      have rl := h.2.2.2.1 c (by omega)
      rw [hrt1.1.1, h.2.1.2.1, h.2.2.2.2.1.1, h.2.2.2.2.1.2, h.2.1.1, h.2.2.1.1, h.2.2.1.2, hr.2.1.2.2.2, hr.2.2.1.2.2.2, hr.2.2.2.1.2.2.2, show Int.toNat (c : Int) = c by omega, show Int.toNat (v : Int) = v by omega, rv.1, rl.1, add1 (by omega), add1 (by omega)]
      refine br_f (by omega) ⟨h.1, rfl, ⟨by omega, by omega⟩, fun k0 => ?_, fun k0 => ⟨rfl, ⟨by omega, by omega⟩, rfl, ⟨by omega, by omega⟩, ?_⟩⟩
      · refine hout I1 U1 ho ⟨hT.1, hT.2.1, hT.2.2.1, fun c0 v0 a b d e => hT.2.2.2 c0 v0 a b d ?_⟩
        have : c0 ≠ c := fun q => b (q ▸ k0)
        omega
      · unfold apR at hra
        refine loadProduct_spec (M := mB n w) (m := vkey w (v : Int)) h rl.2 rv.2 (by omega) (by omega) hinc hl (fun j m hm => hrt1.2.2 v (by omega) j m hm) (fun I2 o2 hx => ⟨hr.1, h.1, ?_⟩)
        rw [hnu]
        have hrow := hT.1.2.1 c hc k0
        have hE2 := hT.1.o o2 hl
        have hN2 := hN1.ofI o2.toI an
        have hz : ∀ j, j < c + 1 → I2 (i + 123) j = 0 := fun j hj => by
          by_cases q : j < (mB n w).length
          · rw [hx j q]
            exact mulv_zero hinc (vkey_up hw hn (v := v) (by omega)) hc (fun j hj => hT.1.2.2.1 c j (by omega) hj) j hj
          · omega
        refine insertLine_spec h hN2 pp an hl hE2 (fun j hj => by rw [hx j hj]; exact mulv_r hp.1 hrow j) (fun I3 U3 o3 e3 s1 s2 s3 s4 s5 => ?_)
        have hEU := hT.1.1
        have hxU : U3 (mulv (mB n w) (vkey w (v : Int)) (I1 (i + 2 + c))) := e3.1.sub.2.2.2 _ _ (fun j hj => by rw [hx j hj]) s2
        refine ih (v + 1) c I3 U3 (by omega) (by omega) hc ((ho.tr o2.toI).tr o3) ⟨e3, fun g hg2 => s1 _ (hT.2.1 g hg2), fun y hy => ?_, fun c0 v0 a b d e => ?_⟩ hout
        · have hGS : Sub (pr : Int) (mB n w).length (GenU (pr : Int) n w F (bd n).toNat) := spn_sub
          refine s3 _ hGS hT.2.2.1 ?_ y hy
          have hUrow : U1 (I1 (i + 2 + c)) := (hEU.2 _).mpr (spn_in ⟨c, hc, k0, rfl⟩)
          exact hGS.2.2.2 _ _ (fun j hj => by rw [hx j hj]) (gen_mul hw (by omega) hn (v := v) (by omega) hF (hT.2.2.1 _ hUrow))
        · have b1 : I2 (i + 122) c0 ≠ 0 := (s5 (c + 1) hz c0 b).resolve_right (by omega)
          have b2 := s4 c0 b1
          have e2 : I2 (i + 122) = I1 (i + 122) := o2 _ (by omega)
          have e4 : I2 (i + 2 + c0) = I1 (i + 2 + c0) := o2 _ (by omega)
          rw [b2.2 (by omega), e4]
          rw [e2] at b1
          by_cases q : c0 = c ∧ v0 = v
          · rw [q.1, q.2]; exact hxU
          · exact s1 _ (hT.2.2.2 c0 v0 a b1 d (by omega))
  have outer : ∀ (k c : Nat) (I1 : MI) (U1 : Vc → Prop), (mB n w).length - c = k → c ≤ (mB n w).length → offI I I1 i → T I1 c 0 U1 → LX2_build_67 G i r ((mB n w).length : Int) (c : Int) S I1 R Q := by
    intro k
    induction k with
    | zero =>
      intro c I1 U1 hk hc ho hT
      refine bX2_build_67 (br_t (by omega) ?_)
      have e : U1 = GenU (pr : Int) n w F (bd n).toNat := by
        funext y
        refine propext ⟨hT.2.2.1 y, fun hy => ?_⟩
        refine gen_le hw (by omega) hn hF hT.1.1.sub hT.2.1 (fun v hv y hy => ?_) y hy
        refine spn_le (ext_sub (m := vkey w (v : Int)) hT.1.1.sub) (fun t ht => ?_) ((hT.1.1.2 y).mp hy)
        obtain ⟨c0, hc0, hk0, et⟩ := ht
        rw [et]
        exact hT.2.2.2 c0 v hc0 hk0 hv (by omega)
      rw [e] at hT
      exact hq I1 ho hT.1
    | succ k ih =>
      intro c I1 U1 hk hc ho hT
      exact bX2_build_67 (br_f (by omega) (inner n.toNat 0 c I1 U1 (by omega) (by omega) (by omega) ho hT (fun I2 U2 o2 t2 => ih (c + 1) I2 U2 (by omega) (by omega) o2 t2)))
  exact outer (mB n w).length 0 I U (by omega) (by omega) offI.rf ⟨hE, hg, hU, fun c0 v0 _ _ _ e => absurd e (fun q => q.elim (Nat.not_lt_zero _) (fun q2 => Nat.not_lt_zero _ q2.2))⟩
theorem build_spec {I : MI} (h : IdS S R i) (hr : RingL S R r) (hra : apR r i (i + 123)) (hrt : RingT I r n w) (hnu : R r 1 = nu) (hN : NumS S I nu (pr : Int)) (pp : isP pr) (an : nu < i ∨ i + 123 < nu) (hz : IdZ I i)
    (ha : SlN S R pa nl P) (hnl : nl ≤ 8) (hs : 0 ≤ bits ∧ bits < 256) (hf : ∀ k, k < nl → bitI bits k = 1 → Has I (P k) (f k) ∧ okQ (pr : Int) n w (f k)) (hP : ∀ k, k < nl → P k + 2 < i ∨ i + 123 < P k)
    (hq : ∀ I', offI I I' i → IdT I' i (pr : Int) n w (Fs f bits nl) → IdZ I' i → Q S I' R) : CV G MX2_build [vR i, vR pa, vI bits, vR r] S I R Q := by
  have hb := bd_n n
  have hw := hrt.1.2.2.2
  have hn := hrt.1.2.1
  have hl : (mB n w).length ≤ 120 := (ml_bd hn hw).1
  have hp := hN.2.2
  have hF : ∀ g, Fs f bits nl g → okQ (pr : Int) n w g := fun g ⟨k, a, b, e⟩ => by rw [e]; exact (hf k a b).2
  have vw : vX6_width I R r = ((mB n w).length : Int) := (v6width hr hrt.1).trans (hrt.2.1.2 _ (by omega))
  let T : MI → Nat → (Vc → Prop) → Prop := fun I1 k U1 => EchI I1 i (pr : Int) (mB n w).length U1 ∧ (∀ j, j < k → j < nl → bitI bits j = 1 → U1 (vecM (mB n w) (cf (f j)))) ∧ (∀ y, U1 y → GenU (pr : Int) n w (Fs f bits nl) (bd n).toNat y)
  have loop : ∀ (m k : Nat) (I1 : MI) (U1 : Vc → Prop), nl - k = m → k ≤ nl → offI I I1 i → T I1 k U1 → LX2_build_22 G i pa bits r ((mB n w).length : Int) (k : Int) S I1 R Q := by
    intro m
    induction m with
    | zero =>
      intro k I1 U1 hk hk2 ho hT
      refine bX2_build_22 ⟨by rw [ha.1.1]; decide, ?_⟩
      rw [ha.1.2]
      refine br_t (by omega) (build_close h hr hra (hrt.ofI ho hra) hF hnu (hN.ofI ho an) pp an hT.1 (fun g ⟨j, a, b, e⟩ => by rw [e]; exact hT.2.1 j (by omega) a b) hT.2.2 (fun I2 o2 e2 => ?_))
      refine build_marks h hr hra (hrt.ofI (ho.tr o2) hra) hF (fun c hc => ⟨e2.2.2.2 c (by omega), e2.1.lead hp.1 hc⟩) (fun I3 o3 k3 z3 => ?_)
      have eK : (fun c => I3 (i + 122) c ≠ 0) = (fun c => I2 (i + 122) c ≠ 0) := funext fun c => propext (z3 c)
      refine hq I3 (fun b hb2 => by rw [o3 b (by omega)]; exact (ho.tr o2) b hb2) ⟨⟨fun l hl2 hk0 => ?_, fun x => ?_⟩, fun l hl2 hk0 c hc => ?_, k3⟩ (fun l c hl2 hc => ?_)
      · have t := e2.1.1 l hl2 ((z3 l).mp hk0)
        show (pr : Int) ∣ I3 (i + 2 + l) l - 1 ∧ ∀ c, c < l → (pr : Int) ∣ I3 (i + 2 + l) c
        rw [o3 (i + 2 + l) (by omega)]
        exact t
      · rw [e2.1.2 x, eK]
        have : rws (mB n w).length (fun c => I2 (i + 122) c ≠ 0) (fun l => I3 (i + 2 + l)) = rws (mB n w).length (fun c => I2 (i + 122) c ≠ 0) (fun l => I2 (i + 2 + l)) := by
          funext y
          refine propext ⟨fun ⟨l, hl, hk, e⟩ => ⟨l, hl, hk, ?_⟩, fun ⟨l, hl, hk, e⟩ => ⟨l, hl, hk, ?_⟩⟩
          · rw [e]; exact o3 _ (by omega)
          · rw [e]; exact (o3 _ (by omega)).symm
        rw [this]
      · rw [o3 (i + 2 + l) (by omega)]
        exact e2.2.1 l hl2 ((z3 l).mp hk0) c hc
      · rw [o3 (i + 2 + l) (by omega)]
        exact e2.2.2.1 l c hl2 hc
    | succ m ih =>
      intro k I1 U1 hk hk2 ho hT
      have pk := ha.2 k (by omega)
      have hrt1 := hrt.ofI ho hra
      have hN1 := hN.ofI ho an
      refine bX2_build_22 ⟨by rw [ha.1.1]; decide, ?_⟩
      rw [ha.1.1, ha.1.2, vbit (by omega) (by omega), show Int.toNat (k : Int) = k by omega, pk.1, add1 (by omega)]
      refine br_f (by omega) ⟨fun c => ?_, fun c => ⟨rfl, ⟨by omega, by omega⟩, h.1, ?_⟩⟩
      · refine ih (k + 1) I1 U1 (by omega) (by omega) ho ⟨hT.1, fun j hj hj2 hb2 => ?_, hT.2.2⟩
        by_cases q : j = k
        · rw [q] at hb2; exact absurd hb2 c
        · exact hT.2.1 j (by omega) hj2 hb2
      · have c' : bitI bits k = 1 := Decidable.not_not.mp c
        have hfk := hf k (by omega) c'
        refine load_spec h pk.2 (hfk.1.ofI ho (hP k (by omega))) hfk.2.2.2 (by omega) (hP k (by omega)) hr hrt1 hra hfk.2 (fun I2 o2 hx => ⟨hr.1, h.1, ?_⟩)
        rw [hnu]
        refine insertLine_spec h (hN1.ofI o2.toI an) pp an hl (hT.1.o o2 hl) (fun j hj => ?_) (fun I3 U3 o3 e3 s1 s2 s3 s4 s5 => ?_)
        · rw [hx j (by omega), if_pos hj]
          exact cf_r hp.1 hfk.2.1 _
        · have hxe : cg (pr : Int) (mB n w).length (I2 (i + 123)) (vecM (mB n w) (cf (f k))) := fun j hj => by rw [hx j (by omega), if_pos hj]
          refine ih (k + 1) I3 U3 (by omega) (by omega) ((ho.tr o2.toI).tr o3) ⟨e3, fun j hj hj2 hb2 => ?_, fun y hy => ?_⟩
          · by_cases q : j = k
            · rw [q]; exact e3.1.sub.2.2.2 _ _ hxe s2
            · exact s1 _ (hT.2.1 j (by omega) hj2 hb2)
          · have hGS : Sub (pr : Int) (mB n w).length (GenU (pr : Int) n w (Fs f bits nl) (bd n).toNat) := spn_sub
            exact s3 _ hGS hT.2.2 (hGS.2.2.2 _ _ hxe.sy (gen_one hw (by omega) ⟨k, by omega, c', rfl⟩)) y hy
  refine bX2_build ⟨hr.1, p6width hr hrt.1, h.1, ?_⟩
  rw [vw, h.2.1.2.1]
  refine fill_spec h.2.2.2.2.1.1 h.2.2.2.2.1.2 (by omega) (fun I1 o1 h1 => ?_)
  have e0 : min (((mB n w).length : Nat) : Int) 120 = ((mB n w).length : Int) := by omega
  rw [e0]
  have hK : ∀ l, l < (mB n w).length → ¬ (fun c => I1 (i + 122) c ≠ 0) l := fun l hl2 hk => hk (h1 l (by omega))
  have hoI : offI I I1 i := fun b hb2 => o1 b (by omega)
  refine loop nl 0 I1 _ (by omega) (by omega) hoI ⟨⟨ech_nil hK, fun l hl2 hk => absurd hk (hK l hl2), fun l c hl2 hc => ?_, fun c hc => Or.inl (h1 c hc)⟩, fun j hj => absurd hj (Nat.not_lt_zero _), fun y hy => ?_⟩
  · rw [o1 (i + 2 + l) (by omega)]; exact hz l c hl2 hc
  · have hGS : Sub (pr : Int) (mB n w).length (GenU (pr : Int) n w (Fs f bits nl) (bd n).toNat) := spn_sub
    exact hGS.2.2.2 _ _ (fun j hj => by show (0 : Int) % (pr : Int) = y j % (pr : Int); rw [emz.mpr (hy j hj)]; exact Int.zero_emod _) hGS.1
end R2f

