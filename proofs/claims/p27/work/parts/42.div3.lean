/-! ===== X0: the whole division ===== -/
def bitI (s : Int) (k : Nat) : Int := s / ((2 ^ k : Nat) : Int) % 2
theorem vbit {s : Int} {k : Nat} (hs : 0 ≤ s ∧ s < 2147483648) (hk : k < 32) : iand (ishr s (k : Int)) 1 = bitI s k := by
  have h1 : InR s := by unfold InR; omega
  rw [ishr_eq h1 (by omega) (by omega), show Int.toNat (k : Int) = k by omega]
  have h2 : 0 ≤ s / ((2 ^ k : Nat) : Int) := Int.ediv_nonneg hs.1 (Int.natCast_nonneg _)
  have h3 : s / ((2 ^ k : Nat) : Int) ≤ s := Int.ediv_le_self _ hs.1
  rw [iand_1 (by unfold InR; omega)]
  rfl
theorem bit01 (s : Int) (k : Nat) : bitI s k = 0 ∨ bitI s k = 1 := by unfold bitI; omega
def oneL (x : Int) : List Tm := [(262143, x)]
def begT (p : Int) (f : Nat → List Tm) (s : Int) : Nat → Nat × (Nat → Eq3)
  | 0 => (0, fun _ => ([], [], fun _ => []))
  | k + 1 => if bitI s k = 1 then ((begT p f s k).1 + 1, upT (begT p f s k).2 (begT p f s k).1 (f k, [], fun j => if j = k then oneL (ngP p 1) else [])) else begT p f s k
def begD (p : Int) (f : Nat → List Tm) (s : Int) (a : Nat) : Dv := (0, (begT p f s 8).1, (begT p f s 8).2, (f a, oneL 1, fun _ => []), fun _ _ => 0)
theorem begT_le {p : Int} {f : Nat → List Tm} {s : Int} : ∀ k, (begT p f s k).1 ≤ k
  | 0 => Nat.le_refl _
  | k + 1 => by
    rw [begT]
    have := begT_le (p := p) (f := f) (s := s) k
    by_cases c : bitI s k = 1
    · rw [if_pos c]; show (begT p f s k).1 + 1 ≤ k + 1; omega
    · rw [if_neg c]; omega
theorem okK1 {nv : Int} {w : Nat → Int} : okK nv w 262143 := by
  have hx : exx 262143 = 0 := by decide
  have hy : exy 262143 = 0 := by decide
  have hz : exz 262143 = 0 := by decide
  refine ⟨⟨by decide, by decide, by rw [hx]; decide, by rw [hy]; decide, by rw [hz]; decide⟩, ?_, ?_, ?_⟩
  · unfold hi; rw [hx, hy, hz]; omega
  · unfold gk dgw; rw [hx, hy, hz, show dg 262143 = 0 by decide]; omega
  · unfold inV; rw [hy, hz]; exact ⟨fun _ => rfl, fun _ => rfl⟩
theorem okOne {p nv : Int} {w : Nat → Int} {x : Int} (h : 0 < x ∧ x < p) : okQ p nv w (oneL x) := by
  refine ⟨⟨List.pairwise_singleton _ _, fun t ht => ?_⟩, fun t ht => ?_, by show 1 ≤ 60; decide⟩
  · rw [List.mem_singleton.mp ht]; exact h
  · rw [List.mem_singleton.mp ht]; exact okK1
theorem begT_ok {p nv : Int} {w : Nat → Int} {f : Nat → List Tm} {s : Int} (hp : 2 ≤ p) (hf : ∀ k, k < 8 → okQ p nv w (f k)) : ∀ k, k ≤ 8 → ∀ i, i < (begT p f s k).1 → okE3 p nv w ((begT p f s k).2 i)
  | 0, _ => fun i hi => absurd hi (Nat.not_lt_zero _)
  | k + 1, hk => by
    have ih := begT_ok (s := s) hp hf k (by omega)
    rw [begT]
    by_cases c : bitI s k = 1
    · rw [if_pos c]
      intro i hi
      show okE3 p nv w (if i = (begT p f s k).1 then _ else (begT p f s k).2 i)
      by_cases hii : i = (begT p f s k).1
      · rw [if_pos hii]
        refine ⟨hf k (by omega), okQ.nil, fun j hj => ?_⟩
        show okQ p nv w (if j = k then oneL (ngP p 1) else [])
        by_cases hjk : j = k
        · rw [if_pos hjk]
          refine okOne ?_
          unfold ngP
          rw [if_neg (by decide)]
          omega
        · rw [if_neg hjk]; exact okQ.nil
      · rw [if_neg hii]
        exact ih i (by have : i < (begT p f s k).1 + 1 := hi; omega)
    · rw [if_neg c]; exact ih
theorem begD_ok {p nv : Int} {w : Nat → Int} {f : Nat → List Tm} {s : Int} {a : Nat} (hp : 2 ≤ p) (ha : a < 8) (hf : ∀ k, k < 8 → okQ p nv w (f k)) : DivO p nv w (begD p f s a) :=
  ⟨⟨Nat.zero_le _, by have := begT_le (p := p) (f := f) (s := s) 8; show (begT p f s 8).1 ≤ 20; omega⟩, ⟨hf a ha, okOne ⟨by omega, by omega⟩, fun _ _ => okQ.nil⟩, begT_ok hp hf 8 (Nat.le_refl _)⟩
/-- what a division leads to: nothing, or its last state -/
def DivR (p : Int) : Nat → Dv → Option Dv → Prop
  | 0, _, r => r = none
  | k + 1, s, r => (bestD s.2.2.1 s.2.2.2.1.1 s.2.1 = -1 → r = some s) ∧ (bestD s.2.2.1 s.2.2.2.1.1 s.2.1 ≠ -1 →
      ((badD s (bestD s.2.2.1 s.2.2.2.1.1 s.2.1).toNat ∨ ¬ fitE (nowD p s.2.2.2.1 (s.2.2.1 (bestD s.2.2.1 s.2.2.2.1.1 s.2.1).toNat))) → r = none) ∧
      (¬ (badD s (bestD s.2.2.1 s.2.2.2.1.1 s.2.1).toNat ∨ ¬ fitE (nowD p s.2.2.2.1 (s.2.2.1 (bestD s.2.2.1 s.2.2.2.1.1 s.2.1).toNat))) → DivR p k (stpD p s (bestD s.2.2.1 s.2.2.2.1.1 s.2.1).toNat) r))
theorem DivR.det {p : Int} : ∀ (k : Nat) (s : Dv) (r r2 : Option Dv), DivR p k s r → DivR p k s r2 → r = r2
  | 0, _, _, _, h, h2 => Eq.trans h (Eq.symm h2)
  | k + 1, s, r, r2, h, h2 => by
    by_cases c : bestD s.2.2.1 s.2.2.2.1.1 s.2.1 = -1
    · rw [h.1 c, h2.1 c]
    · rcases Classical.em (badD s (bestD s.2.2.1 s.2.2.2.1.1 s.2.1).toNat ∨ ¬ fitE (nowD p s.2.2.2.1 (s.2.2.1 (bestD s.2.2.1 s.2.2.2.1.1 s.2.1).toNat))) with c2 | c2
      · rw [(h.2 c).1 c2, (h2.2 c).1 c2]
      · exact DivR.det k _ r r2 ((h.2 c).2 c2) ((h2.2 c).2 c2)
/-- the best is one of T that divides -/
theorem bestD_r {T : Nat → Eq3} {h : List Tm} {m : Nat} (hb : bestD T h m ≠ -1) : h ≠ [] ∧ ∃ k : Nat, bestD T h m = (k : Int) ∧ k < m ∧ (T k).1 ≠ [] ∧ dvs (hdM (T k).1) (hdM h) := by
  unfold bestD at hb ⊢
  by_cases c : h = []
  · rw [if_pos c] at hb; exact absurd rfl hb
  · rw [if_neg c] at hb ⊢
    rcases bst_r (T := T) (h := h) m with e | ⟨i, h1, h2, h3, h4, -⟩
    · exact absurd e hb
    · exact ⟨c, i, h2, h1, h3, h4⟩
theorem stpD_ok {p nv : Int} {w : Nat → Int} {s : Dv} {k : Nat} (hp : 0 < p) (hw : wtOK w) (ho : DivO p nv w s) (hk : k < s.2.1) (hk0 : (s.2.2.1 k).1 ≠ []) (hn0 : s.2.2.2.1.1 ≠ []) (hd : dvs (hdM (s.2.2.1 k).1) (hdM s.2.2.2.1.1)) (hb : ¬ badD s k) (hf : fitE (nowD p s.2.2.2.1 (s.2.2.1 k))) : DivO p nv w (stpD p s k) := by
  have oE := ho.2.1
  have oF := ho.2.2 k hk
  have kE := (hd_ok oE.1 hn0).1
  have kF := (hd_ok oF.1 hk0).1
  have m : ∀ {f g : List Tm}, okQ p nv w f → okQ p nv w g → fits 60 (mg p (ngP p (tmsD p s.2.2.2.1.1 (s.2.2.1 k).1)) (hdM s.2.2.2.1.1 - hdM (s.2.2.1 k).1) f g) → okQ p nv w (mg p (ngP p (tmsD p s.2.2.2.1.1 (s.2.2.1 k).1)) (hdM s.2.2.2.1.1 - hdM (s.2.2.1 k).1) f g) := fun h1 h2 h3 => mg_ok hp hw h1 h2 kE kF hd h3
  unfold badD at hb
  have hh := ho.1
  refine ⟨⟨?_, ?_⟩, ⟨m oE.1 oF.1 hf.1, m oE.2.1 oF.2.1 hf.2.1, fun j hj => m (oE.2.2 j hj) (oF.2.2 j hj) (hf.2.2 j hj)⟩, fun i hi => ?_⟩
  · show s.1 + 1 ≤ 40; omega
  · show (stpT s k).1 ≤ 20
    unfold stpT
    by_cases c : ecL s.2.2.2.1.1 < ecL (s.2.2.1 k).1
    · rw [if_pos c]; show s.2.1 + 1 ≤ 20; omega
    · rw [if_neg c]; show s.2.1 ≤ 20; omega
  · change i < (stpT s k).1 at hi
    show okE3 p nv w ((stpT s k).2 i)
    unfold stpT at hi ⊢
    by_cases c : ecL s.2.2.2.1.1 < ecL (s.2.2.1 k).1
    · rw [if_pos c] at hi ⊢
      show okE3 p nv w (if i = s.2.1 then s.2.2.2.1 else s.2.2.1 i)
      by_cases hi2 : i = s.2.1
      · rw [if_pos hi2]; exact oE
      · rw [if_neg hi2]; exact ho.2.2 i (by have : i < s.2.1 + 1 := hi; omega)
    · rw [if_neg c] at hi ⊢
      exact ho.2.2 i hi
def SlS (S : Sh) (R : MR) (sl : Nat) (P : Nat → Nat) : Prop := (sT S sl = 24 ∧ sL S sl = 8) ∧ ∀ k, k < 8 → R sl k = P k ∧ PolyS S R (P k) 60
def SlV (I : MI) (P : Nat → Nat) (f : Nat → List Tm) : Prop := ∀ k, k < 8 → Has I (P k) (f k)
section R0c
variable {G : Gl} {S : Sh} {R : MR} {d nw af nu sl : Nat} {P : Nat → Nat} {f : Nat → List Tm} {p nv : Int} {w : Nat → Int}
theorem dbegin_spec {I : MI} {Q : Sh → MI → MR → Prop} {a : Nat} {s : Int} (h : DivS S R d nw af) (hs : SlS S R sl P) (hv : SlV I P f) (hP : ∀ k, k < 8 → P k + 2 < d ∨ d + 746 < P k) (hf : ∀ k, k < 8 → okQ p nv w (f k)) (hN : NumS S I nu p) (an : nu < d ∨ d + 746 < nu) (ha : a < 8) (hset : 0 ≤ s ∧ s < 256)
    (hq : ∀ I', offX I I' d (d + 746) → I' d 1 = s → I' d 2 = (a : Int) → DivV I' d nw (begD p f s a) → Q S I' R) : CV G MX0_begin [vR d, vR sl, vI (a : Int), vI s, vR nu] S I R Q := by
  have hnaf := h.na
  have hp := hN.2.2
  have eqn := h.2.2.2.2.2.1.1
  refine bX0_begin ⟨h.1, fun I2 e2 I7 e7 I12 e12 I17 e17 => ?_⟩
  have g17 : ∀ c, c ≠ d → I17 c = I c := fun c hc => by rw [u_n e17 hc, u_n e12 hc, u_n e7 hc, u_n e2 hc]
  have k1 : I17 d 1 = s := by rw [u_o e17 (by omega), u_o e12 (by omega), u_o e7 (by omega), u_s e2]
  have k2 : I17 d 2 = (a : Int) := by rw [u_o e17 (by omega), u_o e12 (by omega), u_s e7]
  have k3 : I17 d 3 = 0 := by rw [u_o e17 (by omega), u_s e12]
  have k4 : I17 d 4 = 0 := u_s e17
  have loop : ∀ (n k : Nat) (I1 : MI), 8 - k = n → k ≤ 8 → offX I17 I1 d (d + 746) → I1 d 1 = s → I1 d 2 = (a : Int) → I1 d 3 = 0 → I1 d 4 = ((begT p f s k).1 : Int) → (∀ i, i < (begT p f s k).1 → HasE I1 (d + 107 + 32 * i) ((begT p f s k).2 i)) → LX0_begin_23 G d sl (a : Int) s nu (k : Int) S I1 R Q := by
    intro n
    induction n with
    | zero =>
      intro k I1 hk hk8 ho j1 j2 j3 j4 hT
      have e8 : k = 8 := by omega
      subst e8
      have pa := hs.2 a ha
      have hfa : Has I1 (P a) (f a) := by
        have h0 := hv a ha
        have hpa := hP a ha
        exact ⟨by rw [ho _ (by omega), g17 _ (by omega)]; exact h0.1, fun i x hx => by rw [ho _ (by omega), ho _ (by omega), g17 _ (by omega), g17 _ (by omega)]; exact h0.2 i x hx⟩
      refine bX0_begin_23 (br_t (by omega) (bX0_begin_103 (br_f (by omega) ?_)))
      rw [hs.1.1, hs.1.2, h.2.1.2.2.1, show Int.toNat (a : Int) = a by omega, pa.1]
      refine ⟨by decide, br_f (by omega) ⟨h.1, rfl, ⟨by omega, by omega⟩, eqn.1, begin_spec eqn pa.2 hfa (by have := hP a ha; omega) (hf a ha).2.2 (hf a ha).2.2 (by omega) (fun I2 o2 h2 => ⟨h.1, ?_⟩)⟩⟩
      rw [h.2.1.2.2.1, eqn.2.1.2.1]
      refine ⟨eqn.1, eqn.2.2.2.1.1, becomeNumber_spec eqn.2.2.2.1 ⟨by omega, by omega⟩ (fun I3 o3 h3 => ?_)⟩
      have O3 : offX I1 I3 nw (nw + 31) := o2.tr (o3.X (by omega) (by omega))
      refine hq I3 (fun c hc => ?_) ?_ ?_ ⟨⟨?_, ?_⟩, ⟨h2.1.o3 o3 (by omega), h3, fun k hk => (h2.2.2 k hk).o3 o3 (by omega)⟩, fun i hi => (hT i hi).x O3 (by have := begT_le (p := p) (f := f) (s := s) 8; have : i < (begT p f s 8).1 := hi; omega), fun i hi => absurd hi (Nat.not_lt_zero _)⟩
      · rw [O3 c (by omega), ho c hc, g17 c (by omega)]
      · rw [O3 d (by omega)]; exact j1
      · rw [O3 d (by omega)]; exact j2
      · rw [O3 d (by omega)]; exact j3
      · rw [O3 d (by omega)]; exact j4
    | succ n ih =>
      intro k I1 hk hk8 ho j1 j2 j3 j4 hT
      have pk := hs.2 k (by omega)
      have hle := begT_le (p := p) (f := f) (s := s) k
      refine bX0_begin_23 (br_f (by omega) ?_)
      rw [hs.1.1, hs.1.2, vbit (by omega) (by omega)]
      refine ⟨by decide, br_f (by omega) ⟨fun c => ?_, fun c => ⟨h.1, ?_⟩⟩⟩
      · rw [add1 (by omega)]
        have e : begT p f s (k + 1) = begT p f s k := by rw [begT, if_neg c]
        exact ih (k + 1) I1 (by omega) (by omega) ho j1 j2 j3 (by rw [e]; exact j4) (by rw [e]; exact hT)
      · have c' : bitI s k = 1 := Decidable.not_not.mp c
        have e : begT p f s (k + 1) = ((begT p f s k).1 + 1, upT (begT p f s k).2 (begT p f s k).1 (f k, [], fun j => if j = k then oneL (ngP p 1) else [])) := by rw [begT, if_pos c']
        generalize hm : (begT p f s k).1 = m at *
        have eqm := h.2.2.2.2.2.2 m (by omega)
        have hfk : Has I1 (P k) (f k) := by
          have h0 := hv k (by omega)
          have hpk := hP k (by omega)
          exact ⟨by rw [ho _ (by omega), g17 _ (by omega)]; exact h0.1, fun i x hx => by rw [ho _ (by omega), ho _ (by omega), g17 _ (by omega), g17 _ (by omega)]; exact h0.2 i x hx⟩
        rw [j4, h.2.1.1, h.2.2.2.1.1, h.2.2.2.1.2.1, show Int.toNat (m : Int) = m by omega, eqm.1, show Int.toNat (k : Int) = k by omega, pk.1]
        refine ⟨rfl, ⟨by omega, by omega⟩, rfl, ⟨by omega, by omega⟩, eqm.2.1, begin_spec eqm.2 pk.2 hfk (by have := hP k (by omega); omega) (hf k (by omega)).2.2 (hf k (by omega)).2.2 (by omega) (fun I60 o60 h60 => ⟨h.1, ?_⟩)⟩
        have sk := eqm.2.2.2.2.2.2 k (by omega)
        have hN60 : NumS S I60 nu p := ⟨hN.1, by rw [o60 nu (by omega), ho nu (by omega), g17 nu (by omega)]; exact hN.2.1, hN.2.2⟩
        rw [o60 d (by omega), j4, h.2.1.1, h.2.2.2.1.1, h.2.2.2.1.2.1, show Int.toNat (m : Int) = m by omega, eqm.1, eqm.2.2.1.2.2, eqm.2.2.2.2.2.1.1, eqm.2.2.2.2.2.1.2, sk.1, v4n hN60 ⟨by omega, by omega⟩]
        refine ⟨rfl, ⟨by omega, by omega⟩, eqm.2.1, rfl, ⟨by omega, by omega⟩, hN.1, p4n hN60, sk.2.1, becomeNumber_spec sk.2 ⟨by omega, by omega⟩ (fun I84 o84 h84 => ⟨h.1, fun I94 e94 => ?_⟩)⟩
        rw [o84 d (by omega) (by omega) (by omega), o60 d (by omega), j4, add1 (by omega)] at e94
        rw [add1 (by omega)]
        have O84 : offX I1 I84 (d + 107 + 32 * m) (d + 107 + 32 * m + 31) := o60.tr (o84.X (by omega) (by omega))
        have g94 : ∀ c, c ≠ d → I94 c = I84 c := fun c hc => u_n e94 hc
        have e1 : (begT p f s (k + 1)).1 = m + 1 := by rw [e]
        have e2 : (begT p f s (k + 1)).2 = upT (begT p f s k).2 m (f k, [], fun j => if j = k then oneL (ngP p 1) else []) := by rw [e]
        refine ih (k + 1) I94 (by omega) (by omega) (fun c hc => by rw [g94 c (by omega), O84 c (by omega), ho c hc]) ?_ ?_ ?_ ?_ (fun i hi => ?_)
        · rw [u_o e94 (by omega), O84 d (by omega)]; exact j1
        · rw [u_o e94 (by omega), O84 d (by omega)]; exact j2
        · rw [u_o e94 (by omega), O84 d (by omega)]; exact j3
        · rw [e1]; exact u_s e94
        · rw [e1] at hi
          rw [e2]
          by_cases him : i = m
          · subst him
            rw [show upT (begT p f s k).2 i (f k, [], fun j => if j = k then oneL (ngP p 1) else []) i = (f k, [], fun j => if j = k then oneL (ngP p 1) else []) from if_pos rfl]
            refine HasE.c (I := I84) ⟨h60.1.o3 o84 (by omega), h60.2.1.o3 o84 (by omega), fun j hj => ?_⟩ (fun c h1 h2 => g94 c (by omega))
            show Has I84 _ (if j = k then oneL (ngP p 1) else [])
            by_cases hjk : j = k
            · subst hjk; rw [if_pos rfl]; exact h84
            · rw [if_neg hjk]; exact (h60.2.2 j hj).o3 o84 (by omega)
          · rw [show upT (begT p f s k).2 m (f k, [], fun j => if j = k then oneL (ngP p 1) else []) i = (begT p f s k).2 i from if_neg him]
            exact ((hT i (by omega)).x O84 (by omega)).c (fun c h1 h2 => g94 c (by omega))
  exact loop 8 0 I17 (by omega) (by omega) offX.rf k1 k2 k3 k4 (fun i hi => absurd hi (Nat.not_lt_zero _))
theorem dv54 {I : MI} {Q : Sh → MI → MR → Int → Prop} {x : Int} (h : sT S d = 1) (h1 : x = -1 → ∀ I', I' = up2 I d 0 1 → Q S I' R (I d 3)) (h0 : x ≠ -1 → ∀ I', I' = up2 I d 0 0 → Q S I' R (-2)) : LX0_divide_54 G d x S I R Q := by
  refine bX0_divide_54 ⟨fun c => ⟨h, fun I66 e66 => ?_⟩, fun c => ⟨h, fun I66 e66 => ?_⟩⟩
  · rw [u_s e66]; exact br_t rfl (h0 c I66 e66)
  · rw [u_s e66, u_o e66 (by omega)]
    exact br_f (by decide) (h1 (Decidable.not_not.mp c) I66 e66)
theorem DivV.f0 {I I' : MI} {s : Dv} {v : Int} (h : DivV I d nw s) (hs : s.1 ≤ 40) (hnw : d < nw) (e : I' = up2 I d 0 v) : DivV I' d nw s :=
  ⟨⟨by rw [u_o e (by omega)]; exact h.1.1, by rw [u_o e (by omega)]; exact h.1.2⟩, h.2.1.c (fun c h1 h2 => u_n e (by omega)), fun i hi => (h.2.2.1 i hi).c (fun c h1 h2 => u_n e (by omega)), fun i hi j hj => by rw [u_n e (by omega)]; exact h.2.2.2 i hi j hj⟩
theorem dloop {Q : Sh → MI → MR → Int → Prop} {I0 : MI} {R0 : MR} {s0 : Dv} (hw : wtOK w) (hN : NumS S I0 nu p) (an : nu < d ∨ d + 746 < nu)
    (hS : ∀ I' R' nw' af' s', DivR p 41 s0 (some s') → offV I0 I' d → RdD R0 R' d → DivS S R' d nw' af' → DivV I' d nw' s' → DivO p nv w s' → I' d 0 = 1 → Q S I' R' (s'.1 : Int))
    (hX : ∀ I' R' nw' af', DivR p 41 s0 none → offV I0 I' d → RdD R0 R' d → DivS S R' d nw' af' → I' d 0 = 0 → Q S I' R' (-2)) :
    ∀ (K i nw af : Nat) (s : Dv) (I : MI) (R : MR), 41 - i = K → i ≤ 40 → s.1 = i → offV I0 I d → RdD R0 R d → DivS S R d nw af → DivV I d nw s → DivO p nv w s → (∀ r, DivR p K s r → DivR p 41 s0 r) →
      LX0_divide_18 G d nu (bestD s.2.2.1 s.2.2.2.1.1 s.2.1) (i : Int) S I R Q := by
  intro K
  have hp := hN.2.2
  induction K with
  | zero => intro i nw af s I R hK hi; omega
  | succ K ih =>
    intro i nw af s I R hK hi hsi ho hr h hv hO hD
    have hnaf := h.na
    have ends : ∀ I1 : MI, I1 = I → LX0_divide_54 G d (bestD s.2.2.1 s.2.2.2.1.1 s.2.1) S I1 R Q ∨ True := fun _ _ => Or.inr trivial
    have yes : bestD s.2.2.1 s.2.2.2.1.1 s.2.1 = -1 → LX0_divide_54 G d (bestD s.2.2.1 s.2.2.2.1.1 s.2.1) S I R Q := by
      intro c
      refine dv54 h.1 (fun _ I' e => ?_) (fun c2 => absurd c c2)
      rw [hv.1.1]
      exact hS I' R nw af s (hD _ ⟨fun _ => rfl, fun q => absurd c q⟩) (ho.tr (offV.u e (Or.inr ⟨rfl, by omega, by omega⟩))) hr h (hv.f0 hO.1.1 (by omega) e) hO (u_s e)
    have no : ∀ (I1 : MI) (R1 : MR) (nw1 af1 : Nat), bestD s.2.2.1 s.2.2.2.1.1 s.2.1 ≠ -1 → DivR p 41 s0 none → offV I0 I1 d → RdD R0 R1 d → DivS S R1 d nw1 af1 → LX0_divide_54 G d (bestD s.2.2.1 s.2.2.2.1.1 s.2.1) S I1 R1 Q := fun I1 R1 nw1 af1 c hd o1 r1 d1 =>
      dv54 d1.1 (fun c2 => absurd c2 c) (fun _ I' e => hX I' R1 nw1 af1 hd (o1.tr (offV.u e (Or.inr ⟨rfl, by omega, by omega⟩))) r1 d1 (u_s e))
    refine bX0_divide_18 ⟨fun c => ?_, fun c => ⟨fun c2 => yes c2, fun c2 => ⟨h.1, ?_⟩⟩⟩
    · by_cases c2 : bestD s.2.2.1 s.2.2.2.1.1 s.2.1 = -1
      · exact yes c2
      · exact no I R nw af c2 (hD _ ⟨fun q => absurd q c2, fun _ => ⟨fun _ => rfl, fun q => absurd (Or.inl (Or.inl (by omega))) q⟩⟩) ho hr h
    · obtain ⟨hn0, k, ek, hk, hk0, hdv⟩ := bestD_r c2
      have ekn : (bestD s.2.2.1 s.2.2.2.1.1 s.2.1).toNat = k := by omega
      have hD' : ∀ r, DivR p (K + 1) s r → DivR p 41 s0 r := hD
      rw [show LX0_divide_18 G d nu = LX0_divide_18 G d nu from rfl]
      have hN1 : NumS S I nu p := offX.num hN ho.1 an
      rw [ek]
      refine stepBy_spec h hv hO hw hN1 an hk hk0 hn0 hdv (fun I' R' o1 r1 d1 nb ft hv1 => br_f (by decide) ⟨h.1, ?_⟩) (fun I' R' nw' af' o1 r1 d1 bd => br_t rfl ?_)
      · have o2 := ho.tr o1
        have r2 : RdD R0 R' d := fun c hc => (r1 c hc).trans (hr c hc)
        have hO1 := stpD_ok (p := p) (by omega) hw hO hk hk0 hn0 hdv nb ft
        rw [add1 (by omega)]
        have s1 : (stpD p s k).1 = i + 1 := by show s.1 + 1 = i + 1; omega
        refine bestDivisor_spec d1 hv1 hO1 ?_
        refine ih (i + 1) af nw (stpD p s k) I' R' (by omega) ?_ s1 o2 r2 d1 hv1 hO1 (fun r hr2 => hD r ⟨fun q => absurd q c2, fun _ => ⟨fun q => ?_, fun _ => ?_⟩⟩)
        · unfold badD at nb; omega
        · rw [ekn] at q; exact absurd q (fun z => z.elim nb (fun y => y ft))
        · rw [ekn]; exact hr2
      · have := no I' R' nw' af' c2 (hD none ⟨fun q => absurd q c2, fun _ => ⟨fun _ => rfl, fun q => absurd bd (by rw [ekn] at q; exact q)⟩⟩) (ho.tr o1) (fun c hc => (r1 c hc).trans (hr c hc)) d1
        rw [ek] at this
        exact this
/-- a whole weak division -/
theorem divide_spec {I : MI} {Q : Sh → MI → MR → Int → Prop} {a : Nat} {s : Int} (h : DivS S R d nw af) (hs : SlS S R sl P) (hv : SlV I P f) (hP : ∀ k, k < 8 → P k + 2 < d ∨ d + 746 < P k) (hf : ∀ k, k < 8 → okQ p nv w (f k)) (hw : wtOK w) (hN : NumS S I nu p) (an : nu < d ∨ d + 746 < nu) (ha : a < 8) (hset : 0 ≤ s ∧ s < 256)
    (hS : ∀ I' R' nw' af' s', DivR p 41 (begD p f s a) (some s') → offX I I' d (d + 746) → I' d 1 = s → I' d 2 = (a : Int) → RdD R R' d → DivS S R' d nw' af' → DivV I' d nw' s' → DivO p nv w s' → I' d 0 = 1 → Q S I' R' (s'.1 : Int))
    (hX : ∀ I' R' nw' af', DivR p 41 (begD p f s a) none → offX I I' d (d + 746) → RdD R R' d → DivS S R' d nw' af' → I' d 0 = 0 → Q S I' R' (-2)) : CI G MX0_divide [vR d, vR sl, vI (a : Int), vI s, vR nu] S I R Q := by
  have hp := hN.2.2
  have hO := begD_ok (w := w) (s := s) hp.1 ha hf
  refine bX0_divide ⟨h.1, dbegin_spec h hs hv hP hf hN an ha hset (fun I1 o1 k1 k2 v1 => ⟨h.1, bestDivisor_spec h v1 hO ?_⟩)⟩
  exact dloop (s0 := begD p f s a) (I0 := I1) (R0 := R) hw (offX.num hN o1 an) an (fun I' R' nw' af' s' e1 e2 e3 e4 e5 e6 e7 => hS I' R' nw' af' s' e1 (o1.tr e2.1) (e2.2.1.trans k1) (e2.2.2.trans k2) e3 e4 e5 e6 e7) (fun I' R' nw' af' e1 e2 e3 e4 e5 => hX I' R' nw' af' e1 (o1.tr e2.1) e3 e4 e5) 41 0 nw af (begD p f s a) I1 R (by omega) (by omega) rfl offV.rf (fun _ _ => rfl) h v1 hO (fun r q => q)
end R0c

