/-! ===== X1: equations ===== -/
/-- only cells from lo to hi change -/
def offX (I I' : MI) (lo hi : Nat) : Prop := ∀ b, (b < lo ∨ hi < b) → I' b = I b
theorem offX.rf {I : MI} {lo hi : Nat} : offX I I lo hi := fun _ _ => rfl
theorem offX.tr {I I1 I2 : MI} {lo hi : Nat} (h : offX I I1 lo hi) (h2 : offX I1 I2 lo hi) : offX I I2 lo hi := fun b x => (h2 b x).trans (h b x)
theorem offX.wk {I I' : MI} {lo hi lo2 hi2 : Nat} (h : offX I I' lo hi) (h1 : lo2 ≤ lo) (h2 : hi ≤ hi2) : offX I I' lo2 hi2 := fun b x => h b (by omega)
theorem off3.X {I I' : MI} {a lo hi : Nat} (h : off3 I I' a) (h1 : lo ≤ a) (h2 : a + 2 ≤ hi) : offX I I' lo hi := fun b x => h b (by omega) (by omega) (by omega)
theorem offX.has {I I' : MI} {a lo hi : Nat} {L : List Tm} (hL : Has I a L) (h : offX I I' lo hi) (hd : a + 2 < lo ∨ hi < a) : Has I' a L :=
  ⟨by rw [h a (by omega)]; exact hL.1, fun i x hx => by rw [h (a + 1) (by omega), h (a + 2) (by omega)]; exact hL.2 i x hx⟩
theorem offX.num {S : Sh} {I I' : MI} {a lo hi : Nat} {p : Int} (hN : NumS S I a p) (h : offX I I' lo hi) (hd : a < lo ∨ hi < a) : NumS S I' a p := ⟨hN.1, by rw [h a hd]; exact hN.2.1, hN.2.2⟩
theorem Has.o3 {I I' : MI} {a b : Nat} {L : List Tm} (h : Has I a L) (ho : off3 I I' b) (hd : a + 2 < b ∨ b + 2 < a) : Has I' a L := h.off ho hd
/-- h, u and the q -/
abbrev Eq3 : Type := List Tm × List Tm × (Nat → List Tm)
def EqS (S : Sh) (R : MR) (e : Nat) : Prop := sT S e = 2 ∧ (R e 0 = e + 1 ∧ R e 1 = e + 4 ∧ R e 2 = e + 7) ∧ PolyS S R (e + 1) 60 ∧ PolyS S R (e + 4) 60 ∧ (sT S (e + 7) = 24 ∧ sL S (e + 7) = 8) ∧ ∀ k, k < 8 → R (e + 7) k = e + 8 + 3 * k ∧ PolyS S R (e + 8 + 3 * k) 60
def HasE (I : MI) (e : Nat) (E : Eq3) : Prop := Has I (e + 1) E.1 ∧ Has I (e + 4) E.2.1 ∧ ∀ k, k < 8 → Has I (e + 8 + 3 * k) (E.2.2 k)
def len60 (E : Eq3) : Prop := E.1.length ≤ 60 ∧ E.2.1.length ≤ 60 ∧ ∀ k, k < 8 → (E.2.2 k).length ≤ 60
theorem HasE.x {I I' : MI} {e lo hi : Nat} {E : Eq3} (hE : HasE I e E) (h : offX I I' lo hi) (hd : e + 31 < lo ∨ hi < e) : HasE I' e E :=
  ⟨offX.has hE.1 h (by omega), offX.has hE.2.1 h (by omega), fun k hk => offX.has (hE.2.2 k hk) h (by omega)⟩
def mixE (p num sh : Int) (F G : Eq3) : Eq3 := (mg p num sh F.1 G.1, mg p num sh F.2.1 G.2.1, fun k => mg p num sh (F.2.2 k) (G.2.2 k))
def fitE (E : Eq3) : Prop := fits 60 E.1 ∧ fits 60 E.2.1 ∧ ∀ k, k < 8 → fits 60 (E.2.2 k)
section R1
variable {G : Gl} {S : Sh} {R : MR} {e d a cap nu : Nat} {p num mono : Int}
theorem begin_spec {I : MI} {Q : Sh → MI → MR → Prop} {f : List Tm} (h : EqS S R e) (hp : PolyS S R a cap) (hf : Has I a f) (hd : a + 2 < e ∨ e + 31 < a) (hl : f.length ≤ 60) (hl2 : f.length ≤ cap) (hc : cap ≤ 100000)
    (hq : ∀ I', offX I I' e (e + 31) → HasE I' e (f, [], fun _ => []) → Q S I' R) : CV G MX1_begin [vR e, vR a] S I R Q := by
  refine bX1_begin ⟨h.1, ?_⟩
  rw [h.2.1.1]
  refine ⟨h.2.2.1.1, become_spec h.2.2.1 hp hf (show apt a (e + 1) by unfold apt; omega) hl hl2 ⟨by omega, hc⟩ (fun I5 o5 h5 => ⟨h.1, ?_⟩)⟩
  rw [h.2.1.2.1]
  refine ⟨h.2.2.2.1.1, clear_spec h.2.2.2.1 (fun I12 o12 h12 => ⟨h.1, ?_⟩)⟩
  rw [h.2.1.2.2]
  rw [h.2.2.2.2.1.1, h.2.2.2.2.1.2]
  refine ⟨by decide, ?_⟩
  have loop : ∀ (k i : Nat) (I1 : MI), 8 - i = k → i ≤ 8 → offX I12 I1 (e + 8) (e + 31) → (∀ j, j < i → Has I1 (e + 8 + 3 * j) []) → LX1_begin_26 G (e + 7) ((8 : Nat) : Int) (i : Int) S I1 R Q := by
    intro k
    induction k with
    | zero =>
      intro i I1 hk hi ho hj
      refine bX1_begin_26 (br_t (by omega) (hq I1 ?_ ⟨?_, ?_, fun j hj2 => hj j (by omega)⟩))
      · exact ((o5.X (by omega) (by omega)).tr (o12.X (by omega) (by omega))).tr (ho.wk (by omega) (by omega))
      · exact offX.has (h5.o3 o12 (by omega)) ho (by omega)
      · exact offX.has h12 ho (by omega)
    | succ k ih =>
      intro i I1 hk hi ho hj
      have hs := h.2.2.2.2.2 i (by omega)
      refine bX1_begin_26 (br_f (by omega) ?_)
      rw [h.2.2.2.2.1.1, h.2.2.2.2.1.2, show Int.toNat (i : Int) = i by omega, hs.1]
      refine ⟨rfl, ⟨by omega, by omega⟩, hs.2.1, clear_spec hs.2 (fun I40 o40 h40 => ?_)⟩
      rw [add1 (by omega)]
      refine ih (i + 1) I40 (by omega) (by omega) (ho.tr (o40.X (by omega) (by omega))) (fun j hj2 => ?_)
      by_cases hji : j = i
      · subst hji; exact h40
      · exact (hj j (by omega)).o3 o40 (by omega)
  exact loop 8 0 I12 (by omega) (by omega) offX.rf (fun j hj => by omega)
theorem ebecome_spec {I : MI} {Q : Sh → MI → MR → Prop} {E : Eq3} (h : EqS S R e) (hd : EqS S R d) (hE : HasE I d E) (hap : d + 31 < e ∨ e + 31 < d) (hl : len60 E)
    (hq : ∀ I', offX I I' e (e + 31) → HasE I' e E → Q S I' R) : CV G MX1_become [vR e, vR d] S I R Q := by
  refine bX1_become ⟨h.1, hd.1, ?_⟩
  rw [h.2.1.1, hd.2.1.1]
  refine ⟨h.2.2.1.1, become_spec h.2.2.1 hd.2.2.1 hE.1 (show apt (d + 1) (e + 1) by unfold apt; omega) hl.1 hl.1 ⟨by omega, by omega⟩ (fun I8 o8 h8 => ⟨h.1, hd.1, ?_⟩)⟩
  rw [h.2.1.2.1, hd.2.1.2.1]
  refine ⟨h.2.2.2.1.1, become_spec h.2.2.2.1 hd.2.2.2.1 (hE.2.1.o3 o8 (by omega)) (show apt (d + 4) (e + 4) by unfold apt; omega) hl.2.1 hl.2.1 ⟨by omega, by omega⟩ (fun I19 o19 h19 => ?_)⟩
  have loop : ∀ (k i : Nat) (I1 : MI), 8 - i = k → i ≤ 8 → offX I19 I1 (e + 8) (e + 31) → (∀ j, j < i → Has I1 (e + 8 + 3 * j) (E.2.2 j)) → LX1_become_24 G e d (i : Int) S I1 R Q := by
    intro k
    induction k with
    | zero =>
      intro i I1 hk hi ho hj
      refine bX1_become_24 (br_t (by omega) (hq I1 ?_ ⟨?_, ?_, fun j hj2 => hj j (by omega)⟩))
      · exact ((o8.X (by omega) (by omega)).tr (o19.X (by omega) (by omega))).tr (ho.wk (by omega) (by omega))
      · exact offX.has (h8.o3 o19 (by omega)) ho (by omega)
      · exact offX.has h19 ho (by omega)
    | succ k ih =>
      intro i I1 hk hi ho hj
      have hs := h.2.2.2.2.2 i (by omega)
      have hs2 := hd.2.2.2.2.2 i (by omega)
      refine bX1_become_24 (br_f (by omega) ?_)
      rw [h.2.1.2.2, hd.2.1.2.2, h.2.2.2.2.1.1, h.2.2.2.2.1.2, hd.2.2.2.2.1.1, hd.2.2.2.2.1.2, show Int.toNat (i : Int) = i by omega, hs.1, hs2.1]
      have hdi : Has I1 (d + 8 + 3 * i) (E.2.2 i) := offX.has (((hE.2.2 i (by omega)).o3 o8 (by omega)).o3 o19 (by omega)) ho (by omega)
      refine ⟨h.1, rfl, ⟨by omega, by omega⟩, hd.1, rfl, ⟨by omega, by omega⟩, hs.2.1, become_spec hs.2 hs2.2 hdi (show apt (d + 8 + 3 * i) (e + 8 + 3 * i) by unfold apt; omega) (hl.2.2 i (by omega)) (hl.2.2 i (by omega)) ⟨by omega, by omega⟩ (fun I42 o42 h42 => ?_)⟩
      rw [add1 (by omega)]
      refine ih (i + 1) I42 (by omega) (by omega) (ho.tr (o42.X (by omega) (by omega))) (fun j hj2 => ?_)
      by_cases hji : j = i
      · subst hji; exact h42
      · exact (hj j (by omega)).o3 o42 (by omega)
  exact loop 8 0 I19 (by omega) (by omega) offX.rf (fun j hj => by omega)
/-- lists that mix can take -/
def mixOk (p mono : Int) (f g : List Tm) : Prop := (f.length ≤ 60 ∧ g.length ≤ 60) ∧ (∀ t ∈ f, okm t.1 ∧ 0 ≤ t.2 ∧ t.2 < p) ∧ (∀ t ∈ g, okm t.1 ∧ okm (t.1 + (mono - 262143)) ∧ 0 ≤ t.2 ∧ t.2 < p)
theorem emix_spec {I : MI} {Q : Sh → MI → MR → Int → Prop} {e1 e2 : Nat} {F H : Eq3} (h : EqS S R e) (h1 : EqS S R e1) (h2 : EqS S R e2) (hF : HasE I e1 F) (hH : HasE I e2 H) (a1 : e1 + 31 < e ∨ e + 31 < e1) (a2 : e2 + 31 < e ∨ e + 31 < e2)
    (hN : NumS S I nu p) (an : nu < e ∨ e + 31 < nu) (hnum : 0 ≤ num ∧ num < p) (hmono : 0 ≤ mono ∧ mono < 500000000)
    (m1 : mixOk p mono F.1 H.1) (m2 : mixOk p mono F.2.1 H.2.1) (m3 : ∀ k, k < 8 → mixOk p mono (F.2.2 k) (H.2.2 k))
    (hy : ∀ I', offX I I' e (e + 31) → fitE (mixE p num (mono - 262143) F H) → HasE I' e (mixE p num (mono - 262143) F H) → Q S I' R 1)
    (hn : ∀ I', offX I I' e (e + 31) → ¬ fitE (mixE p num (mono - 262143) F H) → Q S I' R 0) : CI G MX1_mix [vR e, vR e1, vI num, vI mono, vR e2, vR nu] S I R Q := by
  have bad : ∀ (y : Int) (I' : MI), offX I I' e (e + 31) → ¬ fitE (mixE p num (mono - 262143) F H) → LX1_mix_56 G e e1 num mono e2 nu 0 y S I' R Q := fun y I' ho hb =>
    bX1_mix_56 ⟨fun _ => ⟨Or.inl rfl, hn I' ho hb⟩, fun _ => br_t rfl ⟨Or.inl rfl, hn I' ho hb⟩⟩
  have mx : ∀ {a b d : Nat} {f g : List Tm}, PolyS S R a 60 → PolyS S R b 60 → PolyS S R d 60 → (b + 2 < a ∨ a + 2 < b) → (d + 2 < a ∨ a + 2 < d) → (nu < a ∨ a + 2 < nu) → mixOk p mono f g → mixI S R a b d nu 60 60 60 f g p num mono :=
    fun pa pb pd x1 x2 x3 ok => ⟨pa, pb, pd, by unfold apt; omega, by unfold apt; omega, ⟨by omega, by omega, by omega⟩, by omega, ⟨ok.1.1, ok.1.2, by omega, by omega⟩, hnum, hmono, ok.2.1, ok.2.2⟩
  refine bX1_mix ⟨h.1, h1.1, h2.1, ?_⟩
  rw [h.2.1.1, h1.2.1.1, h2.2.1.1]
  refine ⟨h.2.2.1.1, mix_spec (mx h.2.2.1 h1.2.2.1 h2.2.2.1 (by omega) (by omega) (by omega) m1) hF.1 hH.1 hN (fun I17 o17 f17 h17 => br_f (by decide) ⟨h.1, h1.1, h2.1, ?_⟩) (fun I17 o17 f17 => br_t rfl (bad 0 I17 (o17.X (by omega) (by omega)) (fun q => f17 q.1)))⟩
  rw [h.2.1.2.1, h1.2.1.2.1, h2.2.1.2.1]
  have hN17 : NumS S I17 nu p := offX.num hN (o17.X (Nat.le_refl (e + 1)) (Nat.le_refl _)) (by omega)
  refine ⟨h.2.2.2.1.1, mix_spec (mx h.2.2.2.1 h1.2.2.2.1 h2.2.2.2.1 (by omega) (by omega) (by omega) m2) (hF.2.1.o3 o17 (by omega)) (hH.2.1.o3 o17 (by omega)) hN17 (fun I40 o40 f40 h40 => br_f (by decide) ?_) (fun I40 o40 f40 => br_t rfl (bad 0 I40 ((o17.X (by omega) (by omega)).tr (o40.X (by omega) (by omega))) (fun q => f40 q.2.1)))⟩
  have O40 : offX I I40 e (e + 31) := (o17.X (by omega) (by omega)).tr (o40.X (by omega) (by omega))
  have loop : ∀ (k i : Nat) (I1 : MI), 8 - i = k → i ≤ 8 → offX I40 I1 (e + 8) (e + 31) → (∀ j, j < i → fits 60 (mg p num (mono - 262143) (F.2.2 j) (H.2.2 j)) ∧ Has I1 (e + 8 + 3 * j) (mg p num (mono - 262143) (F.2.2 j) (H.2.2 j))) → LX1_mix_56 G e e1 num mono e2 nu 1 (i : Int) S I1 R Q := by
    intro k
    induction k with
    | zero =>
      intro i I1 hk hi ho hj
      refine bX1_mix_56 (br_t (by omega) ⟨Or.inr rfl, hy I1 (O40.tr (ho.wk (by omega) (by omega))) ⟨f17, f40, fun j hj2 => (hj j (by omega)).1⟩ ⟨?_, ?_, fun j hj2 => (hj j (by omega)).2⟩⟩)
      · exact offX.has (h17.o3 o40 (by omega)) ho (by omega)
      · exact offX.has h40 ho (by omega)
    | succ k ih =>
      intro i I1 hk hi ho hj
      have hs := h.2.2.2.2.2 i (by omega)
      have hs1 := h1.2.2.2.2.2 i (by omega)
      have hs2 := h2.2.2.2.2.2 i (by omega)
      refine bX1_mix_56 (br_f (by omega) (br_f (by decide) ?_))
      rw [h.2.1.2.2, h1.2.1.2.2, h2.2.1.2.2, h.2.2.2.2.1.1, h.2.2.2.2.1.2, h1.2.2.2.2.1.1, h1.2.2.2.2.1.2, h2.2.2.2.2.1.1, h2.2.2.2.2.1.2, show Int.toNat (i : Int) = i by omega, hs.1, hs1.1, hs2.1]
      have O1 : offX I I1 e (e + 31) := O40.tr (ho.wk (by omega) (by omega))
      refine ⟨h.1, rfl, ⟨by omega, by omega⟩, h1.1, rfl, ⟨by omega, by omega⟩, h2.1, rfl, ⟨by omega, by omega⟩, hs.2.1, ?_⟩
      refine mix_spec (mx hs.2 hs1.2 hs2.2 (by omega) (by omega) (by omega) (m3 i (by omega))) (offX.has (hF.2.2 i (by omega)) O1 (by omega)) (offX.has (hH.2.2 i (by omega)) O1 (by omega)) (offX.num hN O1 an) (fun I94 o94 f94 h94 => ?_) (fun I94 o94 f94 => bad _ I94 (O1.tr (o94.X (by omega) (by omega))) (fun q => f94 (q.2.2 i (by omega))))
      rw [add1 (by omega)]
      refine ih (i + 1) I94 (by omega) (by omega) (ho.tr (o94.X (by omega) (by omega))) (fun j hj2 => ?_)
      by_cases hji : j = i
      · subst hji; exact ⟨f94, h94⟩
      · exact ⟨(hj j (by omega)).1, (hj j (by omega)).2.o3 o94 (by omega)⟩
  exact loop 8 0 I40 (by omega) (by omega) offX.rf (fun j hj => by omega)
end R1

