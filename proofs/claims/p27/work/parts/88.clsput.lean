/-! ===== the class: what is put, what is forgotten ===== -/
theorem sam.ofR {lo hi : Nat} {S : Sh} {I : MI} {R R' : MR} (e : ∀ b, lo ≤ b → b ≤ hi → R' b = R b) : sam lo hi S I R S I R' := fun b h1 h2 => ⟨rfl, rfl, rfl, e b h1 h2⟩
def sI2 (I I' : MI) (i : Nat) : Prop := ∀ b, i + 1 ≤ b → b ≤ i + 122 → I' b = I b
theorem IdZ.sm2 {I I' : MI} {i : Nat} (h : IdZ I i) (s : sI2 I I' i) : IdZ I' i := by
  intro l c hl hc
  by_cases e : l = 0
  · omega
  · by_cases e2 : i + 2 + l ≤ i + 122
    · rw [s (i + 2 + l) (by omega) e2]; exact h l c hl hc
    · omega
theorem IdT.sm2 {I I' : MI} {i : Nat} {p n : Int} {w : Nat → Int} {F : List Tm → Prop} (hl : (mB n w).length ≤ 120) (h : IdT I i p n w F) (s : sI2 I I' i) : IdT I' i p n w F := by
  have e1 : I' (i + 122) = I (i + 122) := s _ (by omega) (by omega)
  have e2 : ∀ l, l < (mB n w).length → I' (i + 2 + l) = I (i + 2 + l) := fun l hl2 => s _ (by omega) (by omega)
  refine ⟨?_, fun l hl2 hk c hc => ?_, by rw [e1]; exact h.2.2⟩
  · have hK : (fun c => I' (i + 122) c ≠ 0) = (fun c => I (i + 122) c ≠ 0) := by rw [e1]
    rw [hK]
    exact h.1.cgr (fun l hl2 _ j _ => by show I' (i + 2 + l) j = I (i + 2 + l) j; rw [e2 l hl2])
  · rw [e1] at hk
    rw [e2 l hl2]; exact h.2.1 l hl2 hk c hc
theorem NumS.atI {S : Sh} {I I' : MI} {a : Nat} {p : Int} (h : NumS S I a p) (e : I' a = I a) : NumS S I' a p := ⟨h.1, by rw [e]; exact h.2.1, h.2.2⟩
theorem Has.same {I I' : MI} {a : Nat} {L : List Tm} (h : Has I a L) (e : ∀ b, a ≤ b → b ≤ a + 2 → I' b = I b) : Has I' a L := by
  unfold Has
  rw [e a (by omega) (by omega), e (a + 1) (by omega) (by omega), e (a + 2) (by omega) (by omega)]; exact h
section CLV
variable {S : Sh} {I I' : MI} {P : Nat → Nat} {nu nw : Nat} {s : Ms}
theorem ClsV.rtI (h : ClsV S I P nu nw s) (e : ∀ b, 2 ≤ b → b ≤ 10 → I' b = I b) : RingT I' 2 s.n s.w := h.rt.o (e _ (by omega) (by omega)) (fun b h1 h2 => e b (by omega) (by omega))
theorem ClsV.tpI (h : ClsV S I P nu nw s) (e : I' 36 = I 36) (e2 : I' 37 = I 37) : TpB I' 36 s.b s.tn ∧ I' 36 2 = s.fl.1 ∧ I' 36 3 = s.fl.2 := by
  refine ⟨?_, by rw [e]; exact h.tp.2.1, by rw [e]; exact h.tp.2.2⟩
  have := h.tp.1
  unfold TpB at this ⊢
  rw [e, show 36 + 1 = 37 from rfl, e2]; exact this
theorem ClsV.txI (h : ClsV S I P nu nw s) (e : I' 42 = I 42) (e2 : I' 43 = I 43) : HasT I' 42 s.sh := by
  have := h.tx
  unfold HasT Arr at this ⊢
  rw [e, show 42 + 1 = 43 from rfl, e2]; exact this
theorem ClD.same {p n : Int} {w : Nat → Int} {dv : Option (Int × Nat × Dv)} (hnw : (nw = 44 + 43 ∨ nw = 44 + 75)) (hok : DvOK p n w dv) (h : ClD I nw dv) (e : ∀ b, 44 ≤ b → b ≤ 790 → I' b = I b) : ClD I' nw dv := by
  cases dv with
  | none => show I' 44 0 = 0; rw [e 44 (by omega) (by omega)]; exact h
  | some y =>
    obtain ⟨st, a, d⟩ := y
    have h2 : I 44 0 = 1 ∧ I 44 1 = st ∧ I 44 2 = (a : Int) ∧ DivV I 44 nw d := h
    have o2 : (0 ≤ st ∧ st < 256) ∧ a < 8 ∧ DivO p n w d := hok
    show I' 44 0 = 1 ∧ I' 44 1 = st ∧ I' 44 2 = (a : Int) ∧ DivV I' 44 nw d
    have c40 := o2.2.2.1
    have hE : ∀ (a : Nat) (E : Eq3), 44 ≤ a → a + 31 ≤ 790 → HasE I a E → HasE I' a E := fun a E h1 h2 h3 => ⟨h3.1.same (fun b _ _ => e b (by omega) (by omega)), h3.2.1.same (fun b _ _ => e b (by omega) (by omega)), fun k hk => (h3.2.2 k hk).same (fun b _ _ => e b (by omega) (by omega))⟩
    refine ⟨by rw [e 44 (by omega) (by omega)]; exact h2.1, by rw [e 44 (by omega) (by omega)]; exact h2.2.1, by rw [e 44 (by omega) (by omega)]; exact h2.2.2.1, ⟨by rw [e 44 (by omega) (by omega)]; exact h2.2.2.2.1, hE _ _ (by omega) (by omega) h2.2.2.2.2.1, fun i hi => hE _ _ (by omega) (by omega) (h2.2.2.2.2.2.1 i hi), fun i hi j hj => ?_⟩⟩
    rw [e (44 + 3 + i) (by omega) (by omega)]; exact h2.2.2.2.2.2.2 i hi j hj
theorem ClsV.dvI {R : MR} {sp pd ps af : Nat} (hS : ClsS S R P sp pd ps nu nw af) (hs : MsOK s) (h : ClsV S I P nu nw s) (e : ∀ b, 44 ≤ b → b ≤ 790 → I' b = I b) : ClD I' nw s.dv :=
  h.dv.same (by have := hS.dv.2.2.1; omega) hs.2.2.2.2.2.2 e
theorem ClI.same {i : Nat} (hs : MsOK s) (h : ClI I s i) (e : ∀ b, i ≤ b → b ≤ i + 122 → I' b = I b) : ClI I' s i := by
  have hl := (ml_bd hs.2.1 hs.2.2.1).1
  have si : sI I I' i := e
  refine ⟨h.1.sm si, ?_⟩
  rw [e i (by omega) (by omega)]
  rcases h.2 with q | ⟨q1, q2, q3⟩
  · exact Or.inl q
  · exact Or.inr ⟨q1, q2, q3.sm hl si⟩
theorem ClsV.idI (hs : MsOK s) (h : ClsV S I P nu nw s) (e : ∀ b, 792 ≤ b → b ≤ 1287 → I' b = I b) : ∀ k, k < 4 → ClI I' s (idA k) := fun k hk =>
  (h.id k hk).same hs (fun b h1 h2 => e b (by unfold idA at h1; omega) (by unfold idA at h2; omega))
/-- what a class's cells hold stays, where nothing that is used is written -/
theorem ClsV.ch {R : MR} {sp pd ps af : Nat} (hS : ClsS S R P sp pd ps nu nw af) (hs : MsOK s) (h : ClsV S I P nu nw s) (e1 : ∀ b, 1 ≤ b → b ≤ 10 → I' b = I b) (en : I' nu = I nu) (ef : ∀ k, k < 8 → ∀ b, P k ≤ b → b ≤ P k + 2 → I' b = I b) (et : I' 36 = I 36 ∧ I' 37 = I 37 ∧ ∀ b, 42 ≤ b → b ≤ 1287 → I' b = I b) : ClsV S I' P nu nw s :=
  ⟨⟨h.rtI (fun b h1 h2 => e1 b (by omega) h2), h.nm.atI en⟩, fun k hk => (h.f k hk).same (ef k hk), h.tpI et.1 et.2.1, h.txI (et.2.2 _ (by omega) (by omega)) (et.2.2 _ (by omega) (by omega)), h.dvI hS hs (fun b h1 h2 => et.2.2 b (by omega) (by omega)), by rw [e1 1 (by omega) (by omega)]; exact h.nx, h.idI hs (fun b h1 h2 => et.2.2 b (by omega) (by omega))⟩
end CLV
def Z0 : MI := fun _ _ => 0
def upP (P : Nat → Nat) (k a : Nat) : Nat → Nat := fun j => if j = k then a else P j
/-- ideals' sets may be forgotten -/
def offZ (I I' : MI) : Prop := (∀ b, (∀ j, j < 4 → b ≠ idA j) → I' b = I b) ∧ ∀ j, j < 4 → ∀ q, q ≠ 0 → I' (idA j) q = I (idA j) q
theorem offZ.rf {I : MI} : offZ I I := ⟨fun _ _ => rfl, fun _ _ _ _ => rfl⟩
theorem offZ.tr {I I1 I2 : MI} (h : offZ I I1) (h2 : offZ I1 I2) : offZ I I2 := ⟨fun b x => (h2.1 b x).trans (h.1 b x), fun j hj q hq => (h2.2 j hj q hq).trans (h.2 j hj q hq)⟩
theorem idA_ne {j k : Nat} (h : j ≠ k) : idA j ≠ idA k := by unfold idA; omega
theorem offZ.u {I I' : MI} {k : Nat} {v : Int} (hk : k < 4) (e : I' = up2 I (idA k) 0 v) : offZ I I' := by
  refine ⟨fun b hb => by rw [e]; exact up2_n (hb k hk), fun j hj q hq => ?_⟩
  by_cases c : j = k
  · rw [e, c, up2_sn hq]
  · rw [e, up2_n (idA_ne c)]
theorem offZ.lo {I I' : MI} (h : offZ I I') {b : Nat} (hb : b < 792 ∨ 1287 < b) : I' b = I b := h.1 b (fun j hj => by unfold idA; omega)
theorem offZ.id {I I' : MI} (h : offZ I I') {j : Nat} (hj : j < 4) : sI2 I I' (idA j) := fun b h1 h2 => h.1 b (fun k hk => by unfold idA at h1 h2 ⊢; omega)
theorem ClI.toPut {I I' : MI} {s : Ms} {i k : Nat} {L : List Tm} (hs : MsOK s) (h : ClI I s i) (e : sI2 I I' i) (hk : k < 8) (h0 : I' i 0 = -1 ∨ (I' i 0 = I i 0 ∧ (I i 0 = -1 ∨ bitI (I i 0) k ≠ 1))) : ClI I' (put s k L) i := by
  have hl := (ml_bd hs.2.1 hs.2.2.1).1
  refine ⟨h.1.sm2 e, ?_⟩
  rcases h0 with q | ⟨q1, q2⟩
  · exact Or.inl q
  · rcases h.2 with z | ⟨z1, z2, z3⟩
    · exact Or.inl (q1.trans z)
    · rcases q2 with y | y
      · exact Or.inl (q1.trans y)
      · refine Or.inr ?_
        rw [q1]
        have hf : ∀ j, bitI (I i 0) j = 1 → (put s k L).f j = s.f j := fun j hj => by
          show (if j = k then L else s.2.1 j) = s.2.1 j
          by_cases c : j = k
          · rw [c] at hj; exact absurd hj y
          · rw [if_neg c]
        refine ⟨z1, fun j hj hb => by rw [hf j hb]; exact z2 j hj hb, ?_⟩
        have hF : FF (put s k L) (I i 0) = FF s (I i 0) := by
          funext g
          apply propext
          constructor
          · rintro ⟨j, h1, h2, h3⟩; exact ⟨j, h1, h2, by rw [h3]; exact hf j h2⟩
          · rintro ⟨j, h1, h2, h3⟩; exact ⟨j, h1, h2, by rw [h3]; exact (hf j h2).symm⟩
        show IdT I' i (s.p : Int) s.n s.w (FF (put s k L) (I i 0))
        rw [hF]
        exact z3.sm2 hl e
section CLP
variable {G : Gl} {S : Sh} {I : MI} {R : MR} {P : Nat → Nat} {sp pd ps nu nw af : Nat} {s : Ms}
theorem ClsS.toPut {R' : MR} {k : Nat} (h : ClsS S R P sp pd ps nu nw af) (hk : k < 8) (e : R' = up2 (up2 R 11 k sp) 1 8 (P k)) : ClsS S R' (upP P k sp) (P k) pd ps nu nw af := by
  obtain ⟨⟨h1, h2, h3, h4, h5, h6⟩, ⟨hr, hr1⟩, hsl, htp, htx, hdv, ⟨hia, hid⟩, hso, ⟨hP, hsp, hspp, hne, hnes⟩, hpd, hpd1, hps1⟩ := h
  have o : ∀ b, b ≠ 1 → b ≠ 11 → R' b = R b := fun b n1 n11 => by rw [e, up2_n n1, up2_n n11]
  have o1 : ∀ j, j ≠ 8 → R' 1 j = R 1 j := fun j hj => by rw [e, up2_sn hj, up2_n (by decide)]
  have hPr := fun j (hj : j < 8) => (hP j hj).r
  have sr := hsp.r
  have po : ∀ a cap, ((12 ≤ a ∧ a ≤ 33) ∨ (1301 ≤ a ∧ a ≤ 1307)) → PolyS S R a cap → PolyS S R' a cap := fun a cap ha h => h.sm (I := Z0) (I' := Z0) (sam.ofR (fun b _ _ => o b (by omega) (by omega)))
  refine ⟨⟨h1, h2, ⟨by rw [o1 0 (by decide)]; exact h3.1, by rw [o1 1 (by decide)]; exact h3.2.1, by rw [o1 2 (by decide)]; exact h3.2.2.1, by rw [o1 3 (by decide)]; exact h3.2.2.2⟩, ⟨by rw [o1 4 (by decide)]; exact h4.1, by rw [o1 5 (by decide)]; exact h4.2.1, by rw [o1 6 (by decide)]; exact h4.2.2⟩, by rw [e, up2_ss], by rw [o1 9 (by decide)]; exact h6.1, by rw [o1 10 (by decide)]; exact h6.2⟩, ⟨hr.sm (I := Z0) (I' := Z0) (sam.ofR (fun b _ _ => o b (by omega) (by omega))), by rw [o 2 (by decide) (by decide)]; exact hr1⟩, ⟨hsl.1, fun j hj => ?_⟩, htp.sm (I := Z0) (I' := Z0) (sam.ofR (fun b _ _ => o b (by omega) (by omega))), htx.sm (I := Z0) (I' := Z0) (sam.ofR (fun b _ _ => o b (by omega) (by omega))), hdv.sm (I := Z0) (I' := Z0) (sam.ofR (fun b _ _ => o b (by omega) (by omega))), ⟨hia, fun j hj => ⟨by rw [o 791 (by decide) (by decide)]; exact (hid j hj).1, (hid j hj).2.sm (I := Z0) (I' := Z0) (sam.ofR (fun b hb _ => o b (by unfold idA at hb; omega) (by unfold idA at hb; omega)))⟩⟩, ⟨hso.1, fun j hj => ⟨by rw [o 1288 (by decide) (by decide)]; exact (hso.2 j hj).1, (hso.2 j hj).2.sm (I := Z0) (I' := Z0) (sam.ofR (fun b hb _ => o b (by have : 1289 + 3 * j ≤ b := hb; omega) (by have : 1289 + 3 * j ≤ b := hb; omega)))⟩⟩, ⟨fun j hj => ?_, hP k hk, po _ _ (by have := hPr k hk; omega) (hsl.2 k hk).2, fun j l hj hl hjl => ?_, fun j hj => ?_⟩, hpd, po _ _ (Or.inr (by omega)) hpd1, po _ _ (Or.inr (by omega)) hps1⟩
  · unfold upP
    by_cases c : j = k
    · rw [if_pos c, c]
      exact ⟨by rw [e, up2_n (by decide), up2_ss], po _ _ (by omega) hspp⟩
    · rw [if_neg c]
      have := hPr j hj
      exact ⟨by rw [e, up2_n (by decide), up2_sn c]; exact (hsl.2 j hj).1, po _ _ (by omega) (hsl.2 j hj).2⟩
  · unfold upP
    by_cases c : j = k
    · rw [if_pos c]; exact hsp
    · rw [if_neg c]; exact hP j hj
  · unfold upP
    by_cases c : j = k
    · rw [if_pos c, if_neg (fun z => hjl (c.trans z.symm))]; exact fun z => hnes l hl z.symm
    · rw [if_neg c]
      by_cases c2 : l = k
      · rw [if_pos c2]; exact hnes j hj
      · rw [if_neg c2]; exact hne j l hj hl hjl
  · unfold upP
    by_cases c : j = k
    · rw [if_pos c]; exact fun z => hnes k hk z.symm
    · rw [if_neg c]; exact hne j k hj hk c
theorem putSpare_spec {Q : Sh → MI → MR → Int → Prop} {k : Nat} {L : List Tm} (h : ClsS S R P sp pd ps nu nw af) (hs : MsOK s) (hv : ClsV S I P nu nw s) (hk : k < 8) (hL : Has I sp L)
    (hq : ∀ I' R', (∀ b, 1310 ≤ b → I' b = I b) → (∀ b, 1310 ≤ b → R' b = R b) → Cls S I' R' (put s k L) → Q S I' R' (L.length : Int)) : CI G MX9_putSpare [vR 1, vI (k : Int)] S I R Q := by
  refine bX9_putSpare ?_
  rw [h.r1, h.r8, show Int.toNat (k : Int) = k by omega, (h.sl.2 k hk).1, h.sl.1.1, h.sl.1.2]
  refine ⟨h.t1, rfl, ⟨by omega, by omega⟩, h.2.2.2.2.2.2.2.2.1.2.2.1.1, fun R1 e1 => fun R2 e2 => ?_⟩
  rw [e1] at e2
  have hS2 := h.toPut hk e2
  rw [hS2.r5, hS2.ia.1.1, hS2.ia.1.2]
  refine ⟨by omega, ?_⟩
  have loop : ∀ (q c : Nat) (I2 : MI), 4 - c = q → c ≤ 4 → offZ I I2 → (∀ j, j < c → ClI I2 (put s k L) (idA j)) → (∀ j, c ≤ j → j < 4 → I2 (idA j) = I (idA j)) → LX9_putSpare_34 G 1 (k : Int) 791 ((4 : Nat) : Int) (c : Int) S I2 R2 Q := by
    intro q
    induction q with
    | zero =>
      intro c I2 hq1 hc oz hdn _
      have ec : c = 4 := by omega
      rw [ec] at hdn ⊢
      refine bX9_putSpare_34 (br_t (by omega) ?_)
      have pk := hS2.sl.2 k hk
      have ep : upP P k sp k = sp := if_pos rfl
      rw [ep] at pk
      rw [hS2.r1, hS2.sl.1.1, hS2.sl.1.2, show Int.toNat (k : Int) = k by omega, pk.1]
      have spr := h.2.2.2.2.2.2.2.2.1.2.1.r
      have hL2 : Has I2 sp L := hL.same (fun b h1 h2 => oz.lo (by omega))
      rw [hL2.1]
      refine ⟨hS2.t1, rfl, ⟨by omega, by omega⟩, pk.2.1, hq I2 R2 (fun b hb => oz.lo (by omega)) (fun b hb => by rw [e2, up2_n (by omega), up2_n (by omega)]) ⟨_, _, _, _, _, _, _, hS2, ?_⟩⟩
      have hn := h.1.1
      refine ⟨⟨hv.rtI (fun b _ _ => oz.lo (by omega)), hv.nm.atI (oz.lo (by omega))⟩, fun j hj => ?_, hv.tpI (oz.lo (by omega)) (oz.lo (by omega)), hv.txI (oz.lo (by omega)) (oz.lo (by omega)), (hv.dvI h hs (fun b _ _ => oz.lo (by omega)) : ClD I2 nw s.dv), by rw [oz.lo (by omega)]; exact hv.nx, fun j hj => hdn j hj⟩
      show Has I2 (upP P k sp j) (if j = k then L else s.2.1 j)
      unfold upP
      by_cases cj : j = k
      · rw [if_pos cj, if_pos cj]; exact hL2
      · rw [if_neg cj, if_neg cj]
        have pr := (h.2.2.2.2.2.2.2.2.1.1 j hj).r
        exact (hv.f j hj).same (fun b h1 h2 => oz.lo (by omega))
    | succ q ih =>
      intro c I2 hq1 hc oz hdn hr
      have c4 : c < 4 := by omega
      have idc := hS2.ia.2 c c4
      have hI := hv.id c c4
      refine bX9_putSpare_34 (br_f (by omega) ?_)
      rw [hS2.ia.1.1, hS2.ia.1.2, show Int.toNat (c : Int) = c by omega, idc.1, add1 (n := c) (by omega), hr c (Nat.le_refl _) c4]
      refine ⟨rfl, ⟨by omega, by omega⟩, idc.2.1, fun d => ih (c + 1) I2 (by omega) (by omega) oz (fun j hj => ?_) (fun j h1 h2 => hr j (by omega) h2), fun d => fun I3 e3 => ?_⟩
      · by_cases cj : j = c
        · rw [cj]
          refine ClI.toPut hs hI (oz.id c4) hk (Or.inr ⟨by rw [hr c (Nat.le_refl _) c4], ?_⟩)
          rcases hI.2 with z | ⟨z1, _⟩
          · exact Or.inl z
          · exact Or.inr (by rw [vbit ⟨z1.1, by omega⟩ (by omega)] at d; exact d)
        · exact hdn j (by omega)
      · have o3 : offZ I2 I3 := offZ.u c4 e3
        refine ih (c + 1) I3 (by omega) (by omega) (oz.tr o3) (fun j hj => ?_) (fun j h1 h2 => by rw [e3, up2_n (idA_ne (by omega))]; exact hr j (by omega) h2)
        by_cases cj : j = c
        · rw [cj]
          exact ClI.toPut hs hI ((oz.tr o3).id c4) hk (Or.inl (by rw [e3, up2_ss]))
        · have := hdn j (by omega)
          have j4 : j < 4 := by omega
          refine ⟨this.1.sm2 (o3.id j4), ?_⟩
          have e0 : I3 (idA j) 0 = I2 (idA j) 0 := by rw [e3, up2_n (idA_ne cj)]
          rw [e0]
          rcases this.2 with z | ⟨z1, z2, z3⟩
          · exact Or.inl z
          · exact Or.inr ⟨z1, z2, z3.sm2 (ml_bd hs.2.1 hs.2.2.1).1 (o3.id j4)⟩
  exact loop 4 0 I rfl (by omega) offZ.rf (fun j hj => absurd hj (Nat.not_lt_zero _)) (fun j _ _ => rfl)
end CLP

