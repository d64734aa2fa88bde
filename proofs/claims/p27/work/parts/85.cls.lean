/-! ===== the class's state ===== -/
def sam (lo hi : Nat) (S : Sh) (I : MI) (R : MR) (S' : Sh) (I' : MI) (R' : MR) : Prop := ∀ b, lo ≤ b → b ≤ hi → sT S' b = sT S b ∧ sL S' b = sL S b ∧ I' b = I b ∧ R' b = R b
theorem sam.wk {lo hi lo2 hi2 : Nat} {S S' : Sh} {I I' : MI} {R R' : MR} (h : sam lo hi S I R S' I' R') (h1 : lo ≤ lo2) (h2 : hi2 ≤ hi) : sam lo2 hi2 S I R S' I' R' := fun b a c => h b (by omega) (by omega)
theorem sam.tr {lo hi : Nat} {S S1 S2 : Sh} {I I1 I2 : MI} {R R1 R2 : MR} (h : sam lo hi S I R S1 I1 R1) (h2 : sam lo hi S1 I1 R1 S2 I2 R2) : sam lo hi S I R S2 I2 R2 := fun b a c => ⟨(h2 b a c).1.trans (h b a c).1, (h2 b a c).2.1.trans (h b a c).2.1, (h2 b a c).2.2.1.trans (h b a c).2.2.1, (h2 b a c).2.2.2.trans (h b a c).2.2.2⟩
section SAM
variable {S S' : Sh} {I I' : MI} {R R' : MR}
theorem PolyS.sm {a cap : Nat} (h : PolyS S R a cap) (s : sam a (a + 2) S I R S' I' R') : PolyS S' R' a cap := by
  unfold PolyS
  rw [(s a (by omega) (by omega)).1, (s a (by omega) (by omega)).2.2.2, (s (a + 1) (by omega) (by omega)).1, (s (a + 2) (by omega) (by omega)).1, (s (a + 1) (by omega) (by omega)).2.1, (s (a + 2) (by omega) (by omega)).2.1]; exact h
theorem Has.sm {a : Nat} {L : List Tm} (h : Has I a L) (s : sam a (a + 2) S I R S' I' R') : Has I' a L := by
  unfold Has
  rw [(s a (by omega) (by omega)).2.2.1, (s (a + 1) (by omega) (by omega)).2.2.1, (s (a + 2) (by omega) (by omega)).2.2.1]; exact h
theorem RingL.sm {r : Nat} (h : RingL S R r) (s : sam r (r + 8) S I R S' I' R') : RingL S' R' r := by
  refine ⟨(s r (by omega) (by omega)).1.trans h.1, ?_, ?_, ?_, fun i hi => ?_⟩
  · rw [(s r (by omega) (by omega)).2.2.2]; exact h.2.1
  · rw [(s (r + 2) (by omega) (by omega)).1, (s (r + 3) (by omega) (by omega)).1, (s (r + 4) (by omega) (by omega)).1, (s (r + 5) (by omega) (by omega)).1]; exact h.2.2.1
  · rw [(s (r + 2) (by omega) (by omega)).2.1, (s (r + 3) (by omega) (by omega)).2.1, (s (r + 4) (by omega) (by omega)).2.1, (s (r + 5) (by omega) (by omega)).2.1]; exact h.2.2.2.1
  · rw [(s (r + 5) (by omega) (by omega)).2.2.2, (s (r + 6 + i) (by omega) (by omega)).1, (s (r + 6 + i) (by omega) (by omega)).2.1]; exact h.2.2.2.2 i hi
theorem RingT.sm {r : Nat} {n : Int} {w : Nat → Int} (h : RingT I r n w) (s : sam r (r + 8) S I R S' I' R') : RingT I' r n w := h.o (s r (by omega) (by omega)).2.2.1 (fun b h1 h2 => (s b (by omega) (by omega)).2.2.1)
theorem NumS.sm {a : Nat} {p : Int} (h : NumS S I a p) (s : sam a a S I R S' I' R') : NumS S' I' a p := ⟨(s a (by omega) (by omega)).1.trans h.1, by rw [(s a (by omega) (by omega)).2.2.1]; exact h.2.1, h.2.2⟩
theorem TpS.sm {t : Nat} (h : TpS S R t) (s : sam t (t + 5) S I R S' I' R') : TpS S' R' t := by
  refine ⟨(s t (by omega) (by omega)).1.trans h.1, ?_, ?_, h.2.2.2.sm (s.wk (by omega) (by omega))⟩
  · rw [(s t (by omega) (by omega)).2.2.2]; exact h.2.1
  · rw [(s (t + 1) (by omega) (by omega)).1, (s (t + 1) (by omega) (by omega)).2.1, (s (t + 5) (by omega) (by omega)).1, (s (t + 5) (by omega) (by omega)).2.1]; exact h.2.2.1
theorem TxtS.sm {t : Nat} (h : TxtS S R t) (s : sam t (t + 1) S I R S' I' R') : TxtS S' R' t := by
  unfold TxtS
  rw [(s t (by omega) (by omega)).1, (s t (by omega) (by omega)).2.2.2, (s (t + 1) (by omega) (by omega)).1, (s (t + 1) (by omega) (by omega)).2.1]; exact h
theorem HasT.sm {t : Nat} {L : List Int} (h : HasT I t L) (s : sam t (t + 1) S I R S' I' R') : HasT I' t L := by
  unfold HasT Arr
  rw [(s t (by omega) (by omega)).2.2.1, (s (t + 1) (by omega) (by omega)).2.2.1]; exact h
theorem EqS.sm {e : Nat} (h : EqS S R e) (s : sam e (e + 31) S I R S' I' R') : EqS S' R' e := h.mv (fun b h1 h2 => ⟨(s b h1 h2).1, (s b h1 h2).2.1, (s b h1 h2).2.2.2⟩)
theorem DivS.sm {d nw af : Nat} (h : DivS S R d nw af) (s : sam d (d + 746) S I R S' I' R') : DivS S' R' d nw af := by
  have k := h.2.2.1
  refine ⟨(s d (by omega) (by omega)).1.trans h.1, ?_, k, ?_, fun i hi => ?_, ⟨h.2.2.2.2.2.1.1.sm (s.wk (by omega) (by omega)), h.2.2.2.2.2.1.2.sm (s.wk (by omega) (by omega))⟩, fun i hi => ⟨?_, (h.2.2.2.2.2.2 i hi).2.sm (s.wk (by omega) (by omega))⟩⟩
  · rw [(s d (by omega) (by omega)).2.2.2]; exact h.2.1
  · rw [(s (d + 1) (by omega) (by omega)).1, (s (d + 1) (by omega) (by omega)).2.1, (s (d + 2) (by omega) (by omega)).1, (s (d + 2) (by omega) (by omega)).2.1]; exact h.2.2.2.1
  · rw [(s (d + 2) (by omega) (by omega)).2.2.2, (s (d + 3 + i) (by omega) (by omega)).1, (s (d + 3 + i) (by omega) (by omega)).2.1]; exact h.2.2.2.2.1 i hi
  · rw [(s (d + 1) (by omega) (by omega)).2.2.2]; exact (h.2.2.2.2.2.2 i hi).1
theorem HasE.sm {e : Nat} {E : Eq3} (h : HasE I e E) (s : sam e (e + 31) S I R S' I' R') : HasE I' e E := ⟨h.1.sm (s.wk (by omega) (by omega)), h.2.1.sm (s.wk (by omega) (by omega)), fun k hk => (h.2.2 k hk).sm (s.wk (by omega) (by omega))⟩
theorem DivV.sm {d nw : Nat} {v : Dv} (h : DivV I d nw v) (hn : v.1 ≤ 40 ∧ v.2.1 ≤ 20) (hw : d + 43 ≤ nw ∧ nw ≤ d + 75) (s : sam d (d + 746) S I R S' I' R') : DivV I' d nw v := by
  refine ⟨?_, h.2.1.sm (s.wk (by omega) (by omega)), fun i hi => (h.2.2.1 i hi).sm (s.wk (by omega) (by omega)), fun i hi j hj => ?_⟩
  · rw [(s d (by omega) (by omega)).2.2.1]; exact h.1
  · rw [(s (d + 3 + i) (by omega) (by omega)).2.2.1]; exact h.2.2.2 i hi j hj
theorem IdS.sm {i : Nat} (h : IdS S R i) (s : sam i (i + 123) S I R S' I' R') : IdS S' R' i := by
  refine ⟨(s i (by omega) (by omega)).1.trans h.1, ?_, ?_, fun c hc => ?_, ?_, ?_⟩
  · rw [(s i (by omega) (by omega)).2.2.2]; exact h.2.1
  · rw [(s (i + 1) (by omega) (by omega)).1, (s (i + 1) (by omega) (by omega)).2.1]; exact h.2.2.1
  · rw [(s (i + 1) (by omega) (by omega)).2.2.2, (s (i + 2 + c) (by omega) (by omega)).1, (s (i + 2 + c) (by omega) (by omega)).2.1]; exact h.2.2.2.1 c hc
  · rw [(s (i + 122) (by omega) (by omega)).1, (s (i + 122) (by omega) (by omega)).2.1]; exact h.2.2.2.2.1
  · rw [(s (i + 123) (by omega) (by omega)).1, (s (i + 123) (by omega) (by omega)).2.1]; exact h.2.2.2.2.2
/-- an ideal's rows and kinds, the line apart -/
def sI (I I' : MI) (i : Nat) : Prop := ∀ b, i ≤ b → b ≤ i + 122 → I' b = I b
theorem IdZ.sm {i : Nat} (h : IdZ I i) (s : sI I I' i) : IdZ I' i := by
  intro l c hl hc
  by_cases e : l = 0
  · omega
  · by_cases e2 : i + 2 + l ≤ i + 122
    · rw [s (i + 2 + l) (by omega) e2]; exact h l c hl hc
    · omega
theorem IdT.sm {i : Nat} {p n : Int} {w : Nat → Int} {F : List Tm → Prop} (hl : (mB n w).length ≤ 120) (h : IdT I i p n w F) (s : sI I I' i) : IdT I' i p n w F := by
  have e1 : I' (i + 122) = I (i + 122) := s _ (by omega) (by omega)
  have e2 : ∀ l, l < (mB n w).length → I' (i + 2 + l) = I (i + 2 + l) := fun l hl2 => s _ (by omega) (by omega)
  refine ⟨?_, fun l hl2 hk c hc => ?_, by rw [e1]; exact h.2.2⟩
  · have hK : (fun c => I' (i + 122) c ≠ 0) = (fun c => I (i + 122) c ≠ 0) := by rw [e1]
    rw [hK]
    exact h.1.cgr (fun l hl2 _ j _ => by show I' (i + 2 + l) j = I (i + 2 + l) j; rw [e2 l hl2])
  · rw [e1] at hk
    rw [e2 l hl2]; exact h.2.1 l hl2 hk c hc
end SAM
def okA (a : Nat) : Prop := a = 1301 ∨ ∃ k, k < 8 ∧ a = 12 + 3 * k
def idA (k : Nat) : Nat := 792 + 124 * k
/-- pointers and kinds -/
def ClsS (S : Sh) (R : MR) (P : Nat → Nat) (sp pd ps nu nw af : Nat) : Prop := ((1310 ≤ sN S ∧ nu < sN S ∧ (nu = 3 ∨ 1310 ≤ nu) ∧ sT S nu = 4) ∧ sT S 1 = 9 ∧ (R 1 0 = 2 ∧ R 1 1 = 11 ∧ R 1 2 = 36 ∧ R 1 3 = 42) ∧ (R 1 4 = 44 ∧ R 1 5 = 791 ∧ R 1 6 = 1288) ∧ R 1 8 = sp ∧ R 1 9 = pd ∧ R 1 10 = ps) ∧
  (RingL S R 2 ∧ R 2 1 = nu) ∧ SlN S R 11 8 P ∧ TpS S R 36 ∧ TxtS S R 42 ∧ DivS S R 44 nw af ∧ ((sT S 791 = 26 ∧ sL S 791 = 4) ∧ ∀ k, k < 4 → R 791 k = idA k ∧ IdS S R (idA k)) ∧ SlN S R 1288 4 (fun k => 1289 + 3 * k) ∧
  ((∀ k, k < 8 → okA (P k)) ∧ okA sp ∧ PolyS S R sp 60 ∧ (∀ j k, j < 8 → k < 8 → j ≠ k → P j ≠ P k) ∧ ∀ k, k < 8 → P k ≠ sp) ∧ ((pd = 1304 ∧ ps = 1307) ∨ (pd = 1307 ∧ ps = 1304)) ∧ PolyS S R pd 3600 ∧ PolyS S R ps 3600
def ClD (I : MI) (nw : Nat) : Option (Int × Nat × Dv) → Prop
  | none => I 44 0 = 0
  | some (st, a, d) => I 44 0 = 1 ∧ I 44 1 = st ∧ I 44 2 = (a : Int) ∧ DivV I 44 nw d
/-- an ideal told once for all, while its SLOTS stand -/
def ClI (I : MI) (s : Ms) (i : Nat) : Prop := IdZ I i ∧ (I i 0 = -1 ∨ ((0 ≤ I i 0 ∧ I i 0 < 256) ∧ (∀ j, j < 8 → bitI (I i 0) j = 1 → s.f j ≠ []) ∧ IdT I i (s.p : Int) s.n s.w (FF s (I i 0))))
def ClsV (S : Sh) (I : MI) (P : Nat → Nat) (nu nw : Nat) (s : Ms) : Prop := (RingT I 2 s.n s.w ∧ NumS S I nu (s.p : Int)) ∧ (∀ k, k < 8 → Has I (P k) (s.f k)) ∧ (TpB I 36 s.b s.tn ∧ I 36 2 = s.fl.1 ∧ I 36 3 = s.fl.2) ∧ HasT I 42 s.sh ∧ ClD I nw s.dv ∧ (0 ≤ I 1 7 ∧ I 1 7 < 4) ∧ ∀ k, k < 4 → ClI I s (idA k)
def Cls (S : Sh) (I : MI) (R : MR) (s : Ms) : Prop := ∃ P sp pd ps nu nw af, ClsS S R P sp pd ps nu nw af ∧ ClsV S I P nu nw s
/-- what a call of the class leaves alone -/
def frC (S : Sh) (I : MI) (R : MR) (S' : Sh) (I' : MI) (R' : MR) : Prop := sN S ≤ sN S' ∧ sN S' ≤ sN S + 1 ∧ sU S' ≤ sU S + 1 ∧ ∀ b, 1310 ≤ b → b < sN S → sT S' b = sT S b ∧ sL S' b = sL S b ∧ I' b = I b ∧ R' b = R b
theorem frC.rf {S : Sh} {I : MI} {R : MR} : frC S I R S I R := ⟨Nat.le_refl _, Nat.le_succ _, Nat.le_succ _, fun _ _ _ => ⟨rfl, rfl, rfl, rfl⟩⟩
theorem frC.i {S : Sh} {I I' : MI} {R : MR} (h : ∀ b, 1310 ≤ b → I' b = I b) : frC S I R S I' R := ⟨Nat.le_refl _, Nat.le_succ _, Nat.le_succ _, fun b hb _ => ⟨rfl, rfl, h b hb, rfl⟩⟩
theorem frC.ir {S : Sh} {I I' : MI} {R R' : MR} (h : ∀ b, 1310 ≤ b → I' b = I b) (h2 : ∀ b, 1310 ≤ b → R' b = R b) : frC S I R S I' R' := ⟨Nat.le_refl _, Nat.le_succ _, Nat.le_succ _, fun b hb _ => ⟨rfl, rfl, h b hb, h2 b hb⟩⟩
theorem okA.r {a : Nat} (h : okA a) : (12 ≤ a ∧ a ≤ 33) ∨ a = 1301 := by
  rcases h with h | ⟨k, hk, h⟩
  · exact Or.inr h
  · exact Or.inl (by omega)
theorem okA.ap {a b : Nat} (ha : okA a) (hb : okA b) (hne : a ≠ b) : a + 2 < b ∨ b + 2 < a := by
  rcases ha with h | ⟨k, hk, h⟩
  · rcases hb with h2 | ⟨k2, hk2, h2⟩
    · omega
    · omega
  · rcases hb with h2 | ⟨k2, hk2, h2⟩
    · omega
    · omega
/-- cells of the class that stand stay so -/
theorem ClsS.sm {S S' : Sh} {I I' : MI} {R R' : MR} {P : Nat → Nat} {sp pd ps nu nw af : Nat} (h : ClsS S R P sp pd ps nu nw af) (s : sam 1 1309 S I R S' I' R') (sn : sam nu nu S I R S' I' R') (hn : sN S ≤ sN S') : ClsS S' R' P sp pd ps nu nw af := by
  obtain ⟨⟨h1, h2, h3, h4, h5⟩, ⟨hr, hr1⟩, hsl, htp, htx, hdv, ⟨hia, hid⟩, hso, ⟨hP, hsp, hspp, hne, hnes⟩, hpd, hpd1, hps1⟩ := h
  have c1 := s 1 (by omega) (by omega)
  refine ⟨⟨⟨by omega, by omega, h1.2.2.1, (sn nu (by omega) (by omega)).1.trans h1.2.2.2⟩, c1.1.trans h2, by rw [c1.2.2.2]; exact h3, by rw [c1.2.2.2]; exact h4, by rw [c1.2.2.2]; exact h5⟩, ⟨hr.sm (s.wk (by omega) (by omega)), by rw [(s 2 (by omega) (by omega)).2.2.2]; exact hr1⟩, ⟨?_, fun k hk => ⟨?_, ?_⟩⟩, htp.sm (s.wk (by omega) (by omega)), htx.sm (s.wk (by omega) (by omega)), hdv.sm (s.wk (by omega) (by omega)), ⟨?_, fun k hk => ⟨?_, ?_⟩⟩, ⟨?_, fun k hk => ⟨?_, ?_⟩⟩, ⟨hP, hsp, ?_, hne, hnes⟩, hpd, ?_, ?_⟩
  · rw [(s 11 (by omega) (by omega)).1, (s 11 (by omega) (by omega)).2.1]; exact hsl.1
  · rw [(s 11 (by omega) (by omega)).2.2.2]; exact (hsl.2 k hk).1
  · have := (hP k hk).r
    exact (hsl.2 k hk).2.sm (s.wk (by omega) (by omega))
  · rw [(s 791 (by omega) (by omega)).1, (s 791 (by omega) (by omega)).2.1]; exact hia
  · rw [(s 791 (by omega) (by omega)).2.2.2]; exact (hid k hk).1
  · exact (hid k hk).2.sm (s.wk (by unfold idA; omega) (by unfold idA; omega))
  · rw [(s 1288 (by omega) (by omega)).1, (s 1288 (by omega) (by omega)).2.1]; exact hso.1
  · rw [(s 1288 (by omega) (by omega)).2.2.2]; exact (hso.2 k hk).1
  · have := (hso.2 k hk).2
    exact this.sm (s.wk (by show 1 ≤ 1289 + 3 * k; omega) (by show 1289 + 3 * k + 2 ≤ 1309; omega))
  · have := hsp.r
    exact hspp.sm (s.wk (by omega) (by omega))
  · exact hpd1.sm (s.wk (by omega) (by omega))
  · exact hps1.sm (s.wk (by omega) (by omega))
theorem ClsV.sm {S S' : Sh} {I I' : MI} {R R' : MR} {P : Nat → Nat} {sp pd ps nu nw af : Nat} {s : Ms} (hS : ClsS S R P sp pd ps nu nw af) (hs : MsOK s) (h : ClsV S I P nu nw s) (sa : sam 1 1309 S I R S' I' R') (sn : sam nu nu S I R S' I' R') : ClsV S' I' P nu nw s := by
  obtain ⟨⟨hrt, hnm⟩, hp, ⟨htb, hf1, hf2⟩, htx, hd, hi, hid⟩ := h
  have hP := hS.2.2.2.2.2.2.2.2.1.1
  have hnw := hS.2.2.2.2.2.1.2.2.1
  have hl := (ml_bd hs.2.1 hs.2.2.1).1
  have c36 := (sa 36 (by omega) (by omega)).2.2.1
  have c37 := (sa 37 (by omega) (by omega)).2.2.1
  refine ⟨⟨hrt.sm (sa.wk (by omega) (by omega)), hnm.sm sn⟩, fun k hk => ?_, ⟨?_, by rw [c36]; exact hf1, by rw [c36]; exact hf2⟩, htx.sm (sa.wk (by omega) (by omega)), ?_, by rw [(sa 1 (by omega) (by omega)).2.2.1]; exact hi, fun k hk => ?_⟩
  · have := (hP k hk).r
    exact (hp k hk).sm (sa.wk (by omega) (by omega))
  · unfold TpB
    rw [c36, show 36 + 1 = 37 from rfl, c37]; exact htb
  · have hok := hs.2.2.2.2.2.2
    revert hd hok
    generalize s.dv = dv
    intro hd hok
    cases dv with
    | none => show I' 44 0 = 0; rw [(sa 44 (by omega) (by omega)).2.2.1]; exact hd
    | some y =>
      obtain ⟨st, a, d⟩ := y
      have h2 : I 44 0 = 1 ∧ I 44 1 = st ∧ I 44 2 = (a : Int) ∧ DivV I 44 nw d := hd
      have o2 : (0 ≤ st ∧ st < 256) ∧ a < 8 ∧ DivO (s.p : Int) s.n s.w d := hok
      show I' 44 0 = 1 ∧ I' 44 1 = st ∧ I' 44 2 = (a : Int) ∧ DivV I' 44 nw d
      rw [(sa 44 (by omega) (by omega)).2.2.1]
      exact ⟨h2.1, h2.2.1, h2.2.2.1, h2.2.2.2.sm o2.2.2.1 (by omega) (sa.wk (by omega) (by omega))⟩
  · have g := hid k hk
    have si : sI I I' (idA k) := fun b h1 h2 => (sa b (by unfold idA at h1; omega) (by unfold idA at h2; omega)).2.2.1
    have e0 : I' (idA k) = I (idA k) := si _ (by omega) (by omega)
    refine ⟨g.1.sm si, ?_⟩
    rw [e0]
    rcases g.2 with q | ⟨q1, q2, q3⟩
    · exact Or.inl q
    · exact Or.inr ⟨q1, q2, q3.sm hl si⟩

