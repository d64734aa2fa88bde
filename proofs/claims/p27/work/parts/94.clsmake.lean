/-! ===== the class: make ===== -/
theorem cons0_len {v m : Int} {L : List Tm} : (cons0 v m L).length ≤ L.length + 1 := by
  unfold cons0
  split
  · omega
  · exact Nat.le_refl _
theorem mg_len {p num sh : Int} : ∀ {f g : List Tm}, (mg p num sh f g).length ≤ f.length + g.length
  | [], [] => by rw [mg]; exact Nat.zero_le _
  | a :: f, [] => by
    rw [mg]
    have := cons0_len (v := a.2) (m := a.1) (L := mg p num sh f [])
    have := mg_len (p := p) (num := num) (sh := sh) (f := f) (g := [])
    rw [List.length_cons]; omega
  | [], b :: g => by
    rw [mg]
    have := cons0_len (v := (0 + num * b.2) % p) (m := b.1 + sh) (L := mg p num sh [] g)
    have := mg_len (p := p) (num := num) (sh := sh) (f := []) (g := g)
    rw [List.length_cons]; omega
  | a :: f, b :: g => by
    rw [mg, List.length_cons, List.length_cons]
    split
    · have := cons0_len (v := a.2) (m := a.1) (L := mg p num sh f (b :: g))
      have := mg_len (p := p) (num := num) (sh := sh) (f := f) (g := b :: g)
      rw [List.length_cons] at this; omega
    · split
      · have := cons0_len (v := (0 + num * b.2) % p) (m := b.1 + sh) (L := mg p num sh (a :: f) g)
        have := mg_len (p := p) (num := num) (sh := sh) (f := a :: f) (g := g)
        rw [List.length_cons] at this; omega
      · have := cons0_len (v := (a.2 + num * b.2) % p) (m := a.1) (L := mg p num sh f g)
        have := mg_len (p := p) (num := num) (sh := sh) (f := f) (g := g)
        omega
  termination_by f g => f.length + g.length
section CLM
variable {G : Gl} {S : Sh} {I : MI} {R : MR} {P : Nat → Nat} {sp pd ps nu nw af : Nat} {s : Ms}
theorem ClsS.pdr (h : ClsS S R P sp pd ps nu nw af) : ((pd = 1304 ∧ ps = 1307) ∨ (pd = 1307 ∧ ps = 1304)) ∧ PolyS S R pd 3600 ∧ PolyS S R ps 3600 := h.2.2.2.2.2.2.2.2.2
theorem ClsS.r9 (h : ClsS S R P sp pd ps nu nw af) : R 1 9 = pd ∧ R 1 10 = ps := h.1.2.2.2.2.2
theorem ClsS.swap {R' : MR} (h : ClsS S R P sp pd ps nu nw af) (e : R' = up2 (up2 R 1 10 pd) 1 9 ps) : ClsS S R' P sp ps pd nu nw af := by
  obtain ⟨⟨h1, h2, h3, h4, h5, h6⟩, ⟨hr, hr1⟩, hsl, htp, htx, hdv, ⟨hia, hid⟩, hso, ⟨hP, hsp, hspp, hne, hnes⟩, hpd, hpd1, hps1⟩ := h
  have o : ∀ b, b ≠ 1 → R' b = R b := fun b n1 => by rw [e, up2_n n1, up2_n n1]
  have o1 : ∀ j, j ≠ 9 → j ≠ 10 → R' 1 j = R 1 j := fun j n1 n2 => by rw [e, up2_sn n1, up2_sn n2]
  have hPr := fun j (hj : j < 8) => (hP j hj).r
  have sr := hsp.r
  exact ⟨⟨h1, h2, ⟨by rw [o1 0 (by decide) (by decide)]; exact h3.1, by rw [o1 1 (by decide) (by decide)]; exact h3.2.1, by rw [o1 2 (by decide) (by decide)]; exact h3.2.2.1, by rw [o1 3 (by decide) (by decide)]; exact h3.2.2.2⟩, ⟨by rw [o1 4 (by decide) (by decide)]; exact h4.1, by rw [o1 5 (by decide) (by decide)]; exact h4.2.1, by rw [o1 6 (by decide) (by decide)]; exact h4.2.2⟩, by rw [o1 8 (by decide) (by decide)]; exact h5, by rw [e, up2_ss], by rw [e, up2_sn (by decide), up2_ss]⟩, ⟨hr.sm (I := Z0) (I' := Z0) (sam.ofR (fun b _ _ => o b (by omega))), by rw [o 2 (by decide)]; exact hr1⟩, ⟨hsl.1, fun j hj => ⟨by rw [o 11 (by decide)]; exact (hsl.2 j hj).1, (hsl.2 j hj).2.sm (I := Z0) (I' := Z0) (sam.ofR (fun b _ _ => o b (by have := hPr j hj; omega)))⟩⟩, htp.sm (I := Z0) (I' := Z0) (sam.ofR (fun b _ _ => o b (by omega))), htx.sm (I := Z0) (I' := Z0) (sam.ofR (fun b _ _ => o b (by omega))), hdv.sm (I := Z0) (I' := Z0) (sam.ofR (fun b _ _ => o b (by omega))), ⟨hia, fun j hj => ⟨by rw [o 791 (by decide)]; exact (hid j hj).1, (hid j hj).2.sm (I := Z0) (I' := Z0) (sam.ofR (fun b hb _ => o b (by unfold idA at hb; omega)))⟩⟩, ⟨hso.1, fun j hj => ⟨by rw [o 1288 (by decide)]; exact (hso.2 j hj).1, (hso.2 j hj).2.sm (I := Z0) (I' := Z0) (sam.ofR (fun b hb _ => o b (by have : 1289 + 3 * j ≤ b := hb; omega)))⟩⟩, ⟨hP, hsp, hspp.sm (I := Z0) (I' := Z0) (sam.ofR (fun b _ _ => o b (by omega))), hne, hnes⟩, by omega, hps1.sm (I := Z0) (I' := Z0) (sam.ofR (fun b _ _ => o b (by omega))), hpd1.sm (I := Z0) (I' := Z0) (sam.ofR (fun b _ _ => o b (by omega)))⟩
theorem okm_sum {nv : Int} {w : Nat → Int} {a b : Int} (hw : wtOK w) (ha : okK nv w a) (hb : okK nv w b) : okm (a + (b - 262143)) := by
  have r1 := ha.r
  have r2 := hb.r
  have l1 := okK_lt hw ha
  have l2 := okK_lt hw hb
  have e := ex_add (a := a) (b := b) (by omega) (by omega) (by omega)
  have g : dg a = exx a * w 0 + exy a * w 1 + exz a * w 2 := ha.2.2.1
  have g2 : dg b = exx b * w 0 + exy b * w 1 + exz b * w 2 := hb.2.2.1
  have p1 : ∀ x c : Int, 0 ≤ x → 1 ≤ c → 0 ≤ x * c := fun x c h1 h2 => Int.mul_nonneg h1 (by omega)
  have d1 : 0 ≤ dg a := by rw [g]; have := p1 _ _ r1.1 (hw 0 (by omega)).1; have := p1 _ _ r1.2.2.1 (hw 1 (by omega)).1; have := p1 _ _ r1.2.2.2.2.1 (hw 2 (by omega)).1; omega
  have ea := eM_ex a
  have eb := eM_ex b
  unfold eM at ea eb
  refine ⟨?_, by omega, by omega, by omega, by omega⟩
  unfold dg at d1
  omega
theorem multiply_spec {Q : Sh → MI → MR → Int → Prop} {j k : Nat} (h : ClsS S R P sp pd ps nu nw af) (hs : MsOK s) (hv : ClsV S I P nu nw s) (hj : j < 8) (hk : k < 8)
    (h1 : ∀ I' R' pd' ps', ClsS S R' P sp pd' ps' nu nw af → (∀ b, (b < 1301 ∨ 1309 < b) → (b < sp ∨ sp + 2 < b) → I' b = I b) → (∀ b, b ≠ 1 → R' b = R b) → ClsV S I' P nu nw s → fits 60 (canon (s.p : Int) (prdR (s.p : Int) (s.f j) (s.f k))) → Has I' sp (canon (s.p : Int) (prdR (s.p : Int) (s.f j) (s.f k))) → Q S I' R' 1)
    (h0 : ∀ I' R' pd' ps', ClsS S R' P sp pd' ps' nu nw af → (∀ b, (b < 1301 ∨ 1309 < b) → I' b = I b) → (∀ b, b ≠ 1 → R' b = R b) → ClsV S I' P nu nw s → ¬ fits 60 (canon (s.p : Int) (prdR (s.p : Int) (s.f j) (s.f k))) → Q S I' R' 0) : CI G MX9_multiply [vR 1, vR (P j), vR (P k)] S I R Q := by
  have pp := hs.1.1
  have hp0 : (0 : Int) < (s.p : Int) := by have := pp.1; omega
  have oa := hs.2.2.2.1 j hj
  have ob := hs.2.2.2.1 k hk
  have nr := h.nr
  have hPr := fun k (hk : k < 8) => (h.okP k hk).r
  have sr := h.spp.1.r
  have inv : ∀ (I' : MI), (∀ b, (b < 1304 ∨ 1309 < b) → I' b = I b) → ClsV S I' P nu nw s := fun I' o => hv.ch h hs (fun b _ _ => o b (by omega)) (o nu (by omega)) (fun k hk b _ _ => o b (by have := hPr k hk; omega)) ⟨o _ (by omega), o _ (by omega), fun b _ _ => o b (by omega)⟩
  have loop : ∀ (q i : Nat) (I2 : MI) (R2 : MR) (pd2 ps2 : Nat), (s.f j).length - i = q → i ≤ (s.f j).length → ClsS S R2 P sp pd2 ps2 nu nw af → (∀ b, (b < 1304 ∨ 1309 < b) → I2 b = I b) → (∀ b, b ≠ 1 → R2 b = R b) → Has I2 pd2 (canon (s.p : Int) (prdR (s.p : Int) ((s.f j).take i) (s.f k))) → (∀ t ∈ canon (s.p : Int) (prdR (s.p : Int) ((s.f j).take i) (s.f k)), ¬ hi t.1) → (canon (s.p : Int) (prdR (s.p : Int) ((s.f j).take i) (s.f k))).length ≤ 60 * i → LX9_multiply_9 G 1 (P j) (P k) (i : Int) S I2 R2 Q := by
    intro q
    induction q with
    | zero =>
      intro i I2 R2 pd2 ps2 hq1 hi hS2 o2 oR2 hL hh hl
      have ei : (s.f j).take i = s.f j := List.take_of_length_le (by omega)
      rw [ei] at hL hh hl
      have hLa : Has I2 (P j) (s.f j) := (hv.f j hj).same (fun b _ _ => o2 b (by have := hPr j hj; omega))
      have pr := hS2.pdr
      refine bX9_multiply_9 ⟨(hS2.sl.2 j hj).2.1, ?_⟩
      rw [hLa.1, hS2.r9.1, hL.1, hS2.r8]
      refine br_t (by omega) ⟨hS2.t1, pr.2.1.1, fun c => ⟨h.spp.2.1, ?_⟩, fun c => h0 I2 R2 pd2 ps2 hS2 (fun b hb => o2 b (by omega)) oR2 (inv I2 o2) (fun z => by have := z.1; omega)⟩
      have l60 := oa.2.2
      have e3600 : (canon (s.p : Int) (prdR (s.p : Int) (s.f j) (s.f k))).length ≤ 3600 := by omega
      refine become_spec hS2.spp.2 pr.2.1 hL (by unfold apt; omega) (by omega) e3600 (by omega) (fun I3 o3 h3 => h1 I3 R2 pd2 ps2 hS2 (fun b hb hb2 => (o3 b (by omega) (by omega) (by omega)).trans (o2 b (by omega))) oR2 (ClsV.offSp h hs (inv I2 o2) o3) ⟨by omega, hh⟩ h3)
    | succ q ih =>
      intro i I2 R2 pd2 ps2 hq1 hi hS2 o2 oR2 hL hh hl
      have hii : i < (s.f j).length := by omega
      have l60 := oa.2.2
      have hLa : Has I2 (P j) (s.f j) := (hv.f j hj).same (fun b _ _ => o2 b (by have := hPr j hj; omega))
      have hLb : Has I2 (P k) (s.f k) := (hv.f k hk).same (fun b _ _ => o2 b (by have := hPr k hk; omega))
      have pr := hS2.pdr
      have pj := (hS2.sl.2 j hj).2
      have pk := (hS2.sl.2 k hk).2
      have ha := hLa.at hii
      have tm : (s.f j)[i] ∈ s.f j := List.getElem_mem hii
      have ot := oa.2.1 _ tm
      have lt := okK_lt hs.2.2.1 ot
      have rt := oa.1.2 _ tm
      refine bX9_multiply_9 ⟨pj.1, ?_⟩
      rw [hLa.1, hS2.r9.1, hS2.r9.2, pj.2.1, pj.2.2.1, hS2.r0, hS2.toNu, show Int.toNat (i : Int) = i by omega, ha.1, ha.2, add1 (n := i) (by omega)]
      refine br_f (by omega) ⟨hS2.t1, pj.2.2.2.2.1, ⟨by omega, by rw [pj.2.2.2.2.2.2]; omega⟩, pj.2.2.2.1, ⟨by omega, by rw [pj.2.2.2.2.2.1]; omega⟩, hS2.ring.1, pr.2.2.1, ?_⟩
      have hnext := mg_prd hp0 (a := (s.f j).take i) (t := (s.f j)[i]) ob.1.1
      have hcan := canon_can hp0 (prdR_red hp0 ((s.f j).take i) (s.f k))
      rw [← take_succ_get hii] at hnext
      have hmem : ∀ t ∈ canon (s.p : Int) (prdR (s.p : Int) ((s.f j).take i) (s.f k)), okm t.1 := fun y hy => by
        obtain ⟨t, q1, u, q2, q3⟩ := canon_mem hp0 hy
        rw [q3]
        exact okm_sum hs.2.2.1 (ob.2.1 u q2) (oa.2.1 t (List.mem_of_mem_take q1))
      have hlm : (canon (s.p : Int) (prdR (s.p : Int) ((s.f j).take (i + 1)) (s.f k))).length ≤ 60 * (i + 1) := by
        rw [← hnext]
        have := mg_len (p := (s.p : Int)) (num := (s.f j)[i].2) (sh := (s.f j)[i].1 - 262143) (f := canon (s.p : Int) (prdR (s.p : Int) ((s.f j).take i) (s.f k))) (g := s.f k)
        have := ob.2.2
        omega
      refine mix_spec (capb := 3600) (capd := 60) (cap := 3600) (p := (s.p : Int)) ⟨pr.2.2, pr.2.1, pk, by unfold apt; omega, by unfold apt; have := hPr k hk; omega, by omega, by omega, ⟨by omega, ob.2.2, by omega, by omega⟩, ⟨by omega, rt.2⟩, ⟨by omega, by omega⟩, fun t ht => ⟨hmem t ht, by have := hcan.2 t ht; omega, (hcan.2 t ht).2⟩, fun t ht => ⟨ob.ms t ht, okm_sum hs.2.2.1 (ob.2.1 t ht) ot, by have := ob.1.2 t ht; omega, (ob.1.2 t ht).2⟩⟩ hL hLb (hv.nm.atI (o2 nu (by omega))) (fun I3 o3 f3 h3 => br_t (by decide) ⟨hS2.t1, fun R4 e4 => fun R5 e5 => ?_⟩) (fun I3 o3 f3 => br_f (by decide) ?_)
      · rw [hS2.r9.1] at e4
        rw [hS2.r9.2, e4] at e5
        rw [hnext] at f3 h3
        exact ih (i + 1) I3 R5 ps2 pd2 (by omega) (by omega) (hS2.swap e5) (fun b hb => (o3 b (by omega) (by omega) (by omega)).trans (o2 b hb)) (fun b hb => by rw [e5, up2_n hb, up2_n hb]; exact oR2 b hb) h3 f3.2 hlm
      · have o3' : ∀ b, (b < 1304 ∨ 1309 < b) → I3 b = I b := fun b hb => (o3 b (by omega) (by omega) (by omega)).trans (o2 b hb)
        refine h0 I3 R2 pd2 ps2 hS2 (fun b hb => o3' b (by omega)) oR2 (inv I3 o3') (fun z => f3 ?_)
        rw [hnext]
        refine ⟨by omega, fun y hy hhi => ?_⟩
        obtain ⟨t, q1, u, q2, q3⟩ := canon_mem hp0 hy
        have tj := List.mem_of_mem_take q1
        have hv3 : ∃ v : Int, (v = 0 ∨ v = 1 ∨ v = 2) ∧ 30 < ex y.1 v := by
          rcases hhi with x | x | x
          · exact ⟨0, Or.inl rfl, x⟩
          · exact ⟨1, Or.inr (Or.inl rfl), x⟩
          · exact ⟨2, Or.inr (Or.inr rfl), x⟩
        obtain ⟨v, v1, v2⟩ := hv3
        rw [q3, ex_addv (ob.2.1 u q2) (oa.2.1 t tj) v1] at v2
        obtain ⟨y2, y3, y4⟩ := prd_top pp oa ob v1 tj q2 (by omega)
        exact z.2 y2 y3 y4
  have pr := h.pdr
  refine bX9_multiply ?_
  rw [h.r9.1]
  refine ⟨h.t1, pr.2.1.1, clear_spec pr.2.1 (fun I2 o2 h2 => ?_)⟩
  have e0 : canon (s.p : Int) (prdR (s.p : Int) ((s.f j).take 0) (s.f k)) = [] := rfl
  exact loop (s.f j).length 0 I2 R pd ps rfl (by omega) h (fun b hb => o2 b (by omega) (by omega) (by omega)) (fun _ _ => rfl) (by rw [e0]; exact h2) (fun t ht => by rw [e0] at ht; cases ht) (by rw [e0]; exact Nat.zero_le _)
theorem mk_mix {Q : Sh → MI → MR → Int → Prop} {j k : Nat} {num : Int} (h : ClsS S R P sp pd ps nu nw af) (hs : MsOK s) (hv : ClsV S I P nu nw s) (hj : j < 8) (hk : k < 8) (hn : 0 ≤ num ∧ num < (s.p : Int))
    (h1 : ∀ I', off3 I I' sp → fits 60 (mg (s.p : Int) num 0 (s.f j) (s.f k)) → Has I' sp (mg (s.p : Int) num 0 (s.f j) (s.f k)) → Q S I' R 1) (h0 : ∀ I', off3 I I' sp → ¬ fits 60 (mg (s.p : Int) num 0 (s.f j) (s.f k)) → Q S I' R 0) : CI G MX5_mix [vR sp, vR (P j), vI num, vI 262143, vR (P k), vR nu] S I R Q := by
  have oa := hs.2.2.2.1 j hj
  have ob := hs.2.2.2.1 k hk
  have nr := h.nr
  have sr := h.spp.1.r
  have q := mix_spec (G := G) (S := S) (R := R) (Q := Q) (I0 := I) (a := sp) (b := P j) (d := P k) (x5 := nu) (cap := 60) (capb := 60) (capd := 60) (f := s.f j) (g := s.f k) (p := (s.p : Int)) (num := num) (mono := 262143) ⟨h.spp.2, (h.sl.2 j hj).2, (h.sl.2 k hk).2, h.ap hj, h.ap hk, by omega, by omega, ⟨oa.2.2, ob.2.2, by omega, by omega⟩, hn, ⟨by omega, by omega⟩, fun t ht => ⟨oa.ms t ht, by have := oa.1.2 t ht; omega, (oa.1.2 t ht).2⟩, fun t ht => ⟨ob.ms t ht, by rw [show t.1 + ((262143 : Int) - 262143) = t.1 by omega]; exact ob.ms t ht, by have := ob.1.2 t ht; omega, (ob.1.2 t ht).2⟩⟩ (hv.f j hj) (hv.f k hk) hv.nm
  exact q h1 h0
theorem cls_make {Q : Sh → MI → MR → Int → Prop} (h : ClsS S R P sp pd ps nu nw af) (hs : MsOK s) (hv : ClsV S I P nu nw s) {x1 x2 x3 x4 : Int} (hq : ∀ S' I' R' x s', Cls S' I' R' s' → frC S I R S' I' R' → makeA s x1 x2 x3 x4 x s' → Q S' I' R' x) : CI G MX9_make [vR 1, vI x1, vI x2, vI x3, vI x4] S I R Q := by
  have no : ¬ ((0 ≤ x1 ∧ x1 ≤ 2) ∧ slt x2 ∧ slt x3 ∧ slt x4) → Q S I R (-1) := fun c => hq S I R _ s ⟨_, _, _, _, _, _, _, h, hv⟩ frC.rf ⟨fun z => absurd z c, fun _ => ⟨rfl, rfl⟩⟩
  refine bX9_make ⟨fun c => no (fun z => v9isSlot.mpr z.2.1 c), fun a2 => ⟨fun c => no (fun z => v9isSlot.mpr z.2.2.1 c), fun a3 => ⟨fun a4 => ?_, fun c => no (fun z => c (v9isSlot.mpr z.2.2.2))⟩⟩⟩
  have c2 := v9isSlot.mp a2
  have c3 := v9isSlot.mp a3
  have c4 := v9isSlot.mp a4
  obtain ⟨⟨t11, l11⟩, e11, po⟩ := h.slot c2
  obtain ⟨⟨_, l12⟩, e12, po2⟩ := h.slot c3
  have e4 : x4 = ((x4.toNat : Nat) : Int) := by omega
  have hp2 : (2 : Int) ≤ (s.p : Int) := by have := hs.1.1.1; omega
  have bad : ∀ I' R', ClsV S I' P nu nw s → (∃ pd' ps', ClsS S R' P sp pd' ps' nu nw af) → (∀ b, 1310 ≤ b → I' b = I b) → (∀ b, 1310 ≤ b → R' b = R b) → (0 ≤ x1 ∧ x1 ≤ 2) → ¬ fits 60 (makeL s x1 x2.toNat x3.toNat) → Q S I' R' (-1) := fun I' R' z1 ⟨pd', ps', z2⟩ z3 z4 z5 z6 => hq S I' R' _ s ⟨_, _, _, _, _, _, _, z2, z1⟩ (frC.ir z3 z4) ⟨fun _ => ⟨fun y => absurd y z6, fun _ => ⟨rfl, rfl⟩⟩, fun y => absurd ⟨z5, c2, c3, c4⟩ y⟩
  have good : ∀ I' R' pd' ps', ClsS S R' P sp pd' ps' nu nw af → ClsV S I' P nu nw s → (∀ b, 1310 ≤ b → I' b = I b) → (∀ b, 1310 ≤ b → R' b = R b) → (0 ≤ x1 ∧ x1 ≤ 2) → fits 60 (makeL s x1 x2.toNat x3.toNat) → Has I' sp (makeL s x1 x2.toNat x3.toNat) → CI G MX9_putSpare [vR 1, vI x4] S I' R' Q := fun I' R' pd' ps' z1 z2 z3 z4 z5 z6 z7 => by
    rw [e4]
    exact putSpare_spec z1 hs z2 (by omega) z7 (fun I3 R3 g1 g2 g3 => hq S I3 R3 _ _ g3 (frC.ir (fun b hb => (g1 b hb).trans (z3 b hb)) (fun b hb => (g2 b hb).trans (z4 b hb))) ⟨fun _ => ⟨fun _ => ⟨rfl, rfl⟩, fun y => absurd z6 y⟩, fun y => absurd ⟨z5, c2, c3, c4⟩ y⟩)
  rw [h.r0, h.r1, h.r8, e11, e12, h.toNu]
  refine ⟨fun y0 => ⟨fun y1 => ⟨fun y2 => no (by omega), fun y2 => ⟨h.t1, t11, l11, l12, ?_⟩⟩, fun y1 => ?_⟩, fun y0 => ?_⟩
  · have x12 : x1 = 2 := Decidable.not_not.mp y2
    have eM2 : makeL s x1 x2.toNat x3.toNat = canon (s.p : Int) (prdR (s.p : Int) (s.f x2.toNat) (s.f x3.toNat)) := by unfold makeL; rw [if_neg y0, if_neg y1]
    have sr := h.spp.1.r
    refine multiply_spec h hs hv (by omega) (by omega) (fun I' R' pd' ps' g1 g2 g3 g4 g5 g6 => br_f (by decide) ⟨h.t1, ?_⟩) (fun I' R' pd' ps' g1 g2 g3 g4 g5 => br_t (by decide) ?_)
    · exact good I' R' pd' ps' g1 g4 (fun b hb => g2 b (by omega) (by omega)) (fun b hb => g3 b (by omega)) (by omega) (by rw [eM2]; exact g5) (by rw [eM2]; exact g6)
    · exact bad I' R' g4 ⟨pd', ps', g1⟩ (fun b hb => g2 b (by omega)) (fun b hb => g3 b (by omega)) (by omega) (by rw [eM2]; exact g5)
  · have x11 : x1 = 1 := Decidable.not_not.mp y1
    have vn : vX4_negative I nu 1 = (s.p : Int) - 1 := by rw [v4n hv.nm (by omega), if_neg (by decide)]
    have eM2 : makeL s x1 x2.toNat x3.toNat = mg (s.p : Int) ((s.p : Int) - 1) 0 (s.f x2.toNat) (s.f x3.toNat) := by unfold makeL; rw [if_neg y0, if_pos x11]
    rw [vn]
    refine ⟨h.t1, h.ring.1, h.nut, ?_, t11, l11, l12, h.spp.2.1, mk_mix h hs hv (by omega) (by omega) (by omega) (fun I' o f hL => br_f (by decide) ⟨h.t1, ?_⟩) (fun I' o f => br_t (by decide) ?_)⟩
    · exact p4n hv.nm
    · exact good I' R pd ps h (hv.offSp h hs o) (o.hi h) (fun _ _ => rfl) (by omega) (by rw [eM2]; exact f) (by rw [eM2]; exact hL)
    · exact bad I' R (hv.offSp h hs o) ⟨pd, ps, h⟩ (o.hi h) (fun _ _ => rfl) (by omega) (by rw [eM2]; exact f)
  · have x10 : x1 = 0 := Decidable.not_not.mp y0
    have eM2 : makeL s x1 x2.toNat x3.toNat = mg (s.p : Int) 1 0 (s.f x2.toNat) (s.f x3.toNat) := by unfold makeL; rw [if_pos x10]
    refine ⟨h.t1, t11, l11, l12, h.ring.1, h.spp.2.1, mk_mix h hs hv (by omega) (by omega) (by omega) (fun I' o f hL => br_f (by decide) ⟨h.t1, ?_⟩) (fun I' o f => br_t (by decide) ?_)⟩
    · exact good I' R pd ps h (hv.offSp h hs o) (o.hi h) (fun _ _ => rfl) (by omega) (by rw [eM2]; exact f) (by rw [eM2]; exact hL)
    · exact bad I' R (hv.offSp h hs o) ⟨pd, ps, h⟩ (o.hi h) (fun _ _ => rfl) (by omega) (by rw [eM2]; exact f)
end CLM

