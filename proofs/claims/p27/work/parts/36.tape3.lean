/-! ===== X7: factors, terms, the whole tape ===== -/
def offE (I I' : MI) (t : Nat) : Prop := (∀ c, c ≠ t → c ≠ t + 5 → I' c = I c) ∧ I' t 1 = I t 1
theorem offE.rf {I : MI} {t : Nat} : offE I I t := ⟨fun _ _ _ => rfl, rfl⟩
theorem offE.tr {I I1 I2 : MI} {t : Nat} (h : offE I I1 t) (h2 : offE I1 I2 t) : offE I I2 t := ⟨fun c x y => (h2.1 c x y).trans (h.1 c x y), h2.2.trans h.2⟩
theorem offK.E {I I' : MI} {t : Nat} {K : Nat → Prop} (h : offK I I' t K) (hk : ¬ K 1) : offE I I' t := ⟨fun c x _ => h.1 c x, h.2 1 hk⟩
theorem offE.u {I I' : MI} {t k : Nat} {v : Int} (e : I' = up2 I t k v) (hk : k ≠ 1) : offE I I' t := ⟨fun c x _ => u_n e x, u_o e (fun q => hk q.symm)⟩
theorem offE.b {I I' : MI} {t n : Nat} {b : Nat → Int} (h : offE I I' t) (hb : TpB I t b n) : TpB I' t b n := hb.o h.2 (h.1 _ (by omega) (by omega))
def Tok (I : MI) (t q : Nat) (num : Int) (e : Nat → Int) : Prop := I t 5 = (q : Int) ∧ I t 2 = 0 ∧ I t 3 = -1 ∧ I t 6 = num ∧ ∀ i, i < 3 → I (t + 5) i = e i
def Flt (I : MI) (t q : Nat) (f : Fl) : Prop := I t 5 = (q : Int) ∧ I t 2 = f.1 ∧ I t 3 = f.2 ∧ f.1 ≠ 0
theorem Tok.k5 {I I' : MI} {t q q2 : Nat} {num : Int} {e : Nat → Int} (h : Tok I t q num e) (ho : offK I I' t K5) (h5 : I' t 5 = (q2 : Int)) : Tok I' t q2 num e :=
  ⟨h5, by rw [ho.2 2 (by decide)]; exact h.2.1, by rw [ho.2 3 (by decide)]; exact h.2.2.1, by rw [ho.2 6 (by decide)]; exact h.2.2.2.1, fun i hi => by rw [ho.1 _ (by omega)]; exact h.2.2.2.2 i hi⟩
theorem Flt.k5 {I I' : MI} {t q q2 : Nat} {f : Fl} (h : Flt I t q f) (ho : offK I I' t K5) (h5 : I' t 5 = (q2 : Int)) : Flt I' t q2 f :=
  ⟨h5, by rw [ho.2 2 (by decide)]; exact h.2.1, by rw [ho.2 3 (by decide)]; exact h.2.2.1, h.2.2.2⟩
section R7b
variable {G : Gl} {S : Sh} {R : MR} {t r nu : Nat} {b : Nat → Int} {n : Nat} {p nv : Int} {w : Nat → Int} {Q : Sh → MI → MR → Prop}
theorem rp61_ok {I : MI} {q v s : Nat} {y num : Int} {e : Nat → Int} (h : TpS S R t) (hT : Tok I t q num e) (hv : v < 3) (he : 0 ≤ e v ∧ e v ≤ 30) (hy : 0 ≤ y ∧ y < 100)
    (hF : 30 < e v + y → ∀ I', offE I I' t → Flt I' t q (2, (s : Int)) → Q S I' R) (hS : ¬ 30 < e v + y → ∀ I', offE I I' t → Tok I' t q num (upE e v (e v + y)) → Q S I' R) : LX7_readPower_61 G t (v : Int) (s : Int) y S I R Q := by
  refine bX7_readPower_61 (br_f (by omega) (br_f (by omega) ⟨h.1, ?_⟩))
  rw [h.2.1.2.2, h.2.2.1.2.2.1, h.2.2.1.2.2.2, show Int.toNat (v : Int) = v by omega, hT.2.2.2.2 v hv, w32_id (by omega)]
  refine ⟨rfl, ⟨by omega, by omega⟩, fun I79 e79 => ?_⟩
  have ho : offE I I79 t := ⟨fun c x y => u_n e79 y, by rw [u_n e79 (by omega)]⟩
  have kt : I79 t = I t := u_n e79 (by omega)
  rw [u_s e79]
  refine ⟨fun c => hS (by omega) I79 ho ⟨by rw [kt]; exact hT.1, by rw [kt]; exact hT.2.1, by rw [kt]; exact hT.2.2.1, by rw [kt]; exact hT.2.2.2.1, fun i hi => ?_⟩, fun c => ?_⟩
  · by_cases hiv : i = v
    · subst hiv; rw [u_s e79, upE_s]
    · rw [u_o e79 hiv, upE_n hiv]; exact hT.2.2.2.2 i hi
  · refine blame_spec h (fun I2 k1 k2 k3 => hF (by omega) I2 (ho.tr (k1.E (by decide))) ⟨by rw [k1.2 5 (by decide), kt]; exact hT.1, ?_, ?_, by show (2 : Int) ≠ 0; decide⟩)
    · exact (k2 (by rw [kt]; exact hT.2.1)).1
    · exact (k2 (by rw [kt]; exact hT.2.1)).2
theorem rp61_bad {I : MI} {q v s : Nat} {y : Int} {f : Fl} (h : TpS S R t) (hT : Flt I t q f) (hv : v < 3) (hq : ∀ I', offE I I' t → Flt I' t q f → Q S I' R) : LX7_readPower_61 G t (v : Int) (s : Int) y S I R Q := by
  refine bX7_readPower_61 (br_f (by omega) (br_f (by omega) ⟨h.1, ?_⟩))
  rw [h.2.1.2.2, h.2.2.1.2.2.1, h.2.2.1.2.2.2, show Int.toNat (v : Int) = v by omega]
  refine ⟨rfl, ⟨by omega, by omega⟩, fun I79 e79 => ?_⟩
  have ho : offE I I79 t := ⟨fun c x y => u_n e79 y, by rw [u_n e79 (by omega)]⟩
  have kt : I79 t = I t := u_n e79 (by omega)
  have hT2 : Flt I79 t q f := ⟨by rw [kt]; exact hT.1, by rw [kt]; exact hT.2.1, by rw [kt]; exact hT.2.2.1, hT.2.2.2⟩
  refine ⟨fun c => hq I79 ho hT2, fun c => blame_spec h (fun I2 k1 k2 k3 => hq I2 (ho.tr (k1.E (by decide))) ⟨by rw [k1.2 5 (by decide)]; exact hT2.1, ?_, ?_, hT.2.2.2⟩)⟩
  · rw [(k3 (by rw [hT2.2.1]; exact hT.2.2.2)).1]; exact hT2.2.1
  · rw [(k3 (by rw [hT2.2.1]; exact hT.2.2.2)).2]; exact hT2.2.2.1
theorem Tok.digits {I I' : MI} {q d : Nat} {num : Int} {e : Nat → Int} (hT : Tok I t q num e) (ho : offK I I' t K235) (h5 : I' t 5 = (d : Int)) (h2 : I' t 2 = I t 2 ∧ I' t 3 = I t 3) : Tok I' t d num e :=
  ⟨h5, h2.1.trans hT.2.1, h2.2.trans hT.2.2.1, by rw [ho.2 6 (by decide)]; exact hT.2.2.2.1, fun i hi => by rw [ho.1 _ (by omega)]; exact hT.2.2.2.2 i hi⟩
/-- readPower, a variable stands at s -/
theorem readPower_spec {I : MI} {s v : Nat} {num : Int} {e : Nat → Int} (h : TpS S R t) (hb : TpB I t b n) (hT : Tok I t s num e) (hs : s < n) (hnd : ¬ isDg (b s)) (hv : b s = 120 + (v : Int)) (hv3 : v < 3) (he : ∀ i, i < 3 → 0 ≤ e i ∧ e i ≤ 30)
    (hF : ∀ I' q f, fac b n p s num e = Sum.inl f → q ≤ n → offE I I' t → Flt I' t q f → Q S I' R)
    (hS : ∀ I' q st, fac b n p s num e = Sum.inr st → q ≤ n → sk b n q = st.1 → offE I I' t → Tok I' t q st.2.1 st.2.2 → Q S I' R) : CV G MX7_readPower [vR t, vI (v : Int)] S I R Q := by
  have hn := hb.2.1
  refine bX7_readPower ⟨h.1, fun I12 e12 => ?_⟩
  rw [hT.1, add1 (by omega)] at e12
  have o1 : offK I I12 t K5 := offK.u e12 rfl
  have hT1 : Tok I12 t (s + 1) num e := hT.k5 o1 (u_s e12)
  have hb1 := (o1.E (by decide)).b hb
  refine ahead_spec h hb1 (u_s e12) hs (fun I18 o2 h18 => ?_)
  have hT2 := hT1.k5 o2 h18
  have hb2 := (o2.E (by decide)).b hb1
  have O2 : offE I I18 t := (o1.E (by decide)).tr (o2.E (by decide))
  have k2 := sk_le (b := b) hs
  have hvv : (b s - 120).toNat = v := by omega
  rw [hT.1]
  refine ⟨fun c => ?_, fun c => ⟨h.1, fun I33 e33 => ?_⟩⟩
  · have ef : fac b n p s num e = addE s v 1 (sk b n (s + 1)) num e := by unfold fac; rw [if_neg hnd, if_neg c, hvv]
    refine rp61_ok h hT2 hv3 (he v hv3) (by omega) (fun c2 I' o h3 => hF I' _ _ ?_ k2 (O2.tr o) h3) (fun c2 I' o h3 => hS I' _ (sk b n (s + 1), num, upE e v (e v + 1)) ?_ k2 (sk_sk hs) (O2.tr o) h3)
    · rw [ef]; exact if_pos c2
    · rw [ef]; exact if_neg c2
  · have c' : see b n (sk b n (s + 1)) = 94 := Decidable.not_not.mp c
    have k3 := see_lt (b := b) (n := n) (a := sk b n (s + 1)) (by rw [c']; decide)
    rw [h18, add1 (by omega)] at e33
    have o3 : offK I18 I33 t K5 := offK.u e33 rfl
    have hT3 := hT2.k5 o3 (u_s e33)
    have hb3 := (o3.E (by decide)).b hb2
    refine ahead_spec h hb3 (u_s e33) k3 (fun I37 o4 h37 => ?_)
    have hT4 := hT3.k5 o4 h37
    have hb4 := (o4.E (by decide)).b hb3
    have O4 : offE I I37 t := O2.tr ((o3.E (by decide)).tr (o4.E (by decide)))
    have k5 := sk_le (b := b) (n := n) (a := sk b n (s + 1) + 1) k3
    have ef : fac b n p s num e = (if (dgs b n 2 (sk b n (sk b n (s + 1) + 1))).1 = sk b n (sk b n (s + 1) + 1) ∨ 2 < (dgs b n 2 (sk b n (sk b n (s + 1) + 1))).1 - sk b n (sk b n (s + 1) + 1) then Sum.inl (1, (sk b n (sk b n (s + 1) + 1) : Int))
        else addE s v (dgs b n 2 (sk b n (sk b n (s + 1) + 1))).2 (sk b n (dgs b n 2 (sk b n (sk b n (s + 1) + 1))).1) num e) := by unfold fac; rw [if_neg hnd, if_pos c', hvv]
    generalize hu : sk b n (sk b n (s + 1) + 1) = u at *
    have k6 := dgs_r (b := b) (most := 2) k5
    have k7 := dgs_v (b := b) (n := n) (most := 2) (a := u) (by omega)
    have k7' : (dgs b n 2 u).2 < 100 := k7.2
    refine ⟨fun c2 => ⟨h.1, ?_⟩, fun c2 => ⟨h.1, ?_⟩⟩
    · have dg : isDg (see b n u) := Decidable.of_not_not (fun z => c2 ((v7dg _).mpr z))
      have hun : u < n := by
        refine see_lt (b := b) (fun z => ?_)
        rw [z] at dg
        exact absurd dg.1 (by decide)
      rw [see_at hun] at dg
      have k8 := dgs_pos (most := 2) hun dg
      refine readDigits_spec (most := 2) h hb4 h37 k5 (by omega) (fun I57 o5 h57 f1 f2 => ?_)
      have O5 : offE I I57 t := O4.tr (o5.E (by decide))
      by_cases hc2 : 2 < (dgs b n 2 u).1 - u
      · rw [if_pos (Or.inr hc2)] at ef
        have f3 := f1 hc2 hT4.2.1
        exact rp61_bad h (f := (1, (u : Int))) ⟨h57, f3.1, f3.2, by show (1 : Int) ≠ 0; decide⟩ hv3 (fun I' o h3 => hF I' _ _ ef k6.2 (O5.tr o) h3)
      · rw [if_neg (fun z => z.elim (by omega) hc2)] at ef
        have hT5 := hT4.digits o5 h57 (f2 (Or.inl hc2))
        refine rp61_ok h hT5 hv3 (he v hv3) ⟨k7.1, k7'⟩ (fun c3 I' o h3 => hF I' _ _ ?_ k6.2 (O5.tr o) h3) (fun c3 I' o h3 => hS I' _ (sk b n (dgs b n 2 u).1, num, upE e v (e v + (dgs b n 2 u).2)) ?_ k6.2 rfl (O5.tr o) h3)
        · rw [ef]; exact if_pos c3
        · rw [ef]; exact if_neg c3
    · have nd : ¬ isDg (see b n u) := (v7dg _).mp (Decidable.not_not.mp c2)
      have nd2 : ¬ (u < n ∧ isDg (b u)) := fun z => nd (by rw [see_at z.1]; exact z.2)
      have e0 : dgs b n 2 u = (u, 0) := dgs_none nd2
      rw [if_pos (Or.inl (by rw [e0]))] at ef
      rw [hT4.1]
      refine blame_spec h (fun I52 o5 g1 g2 => ⟨h.1, ?_⟩)
      have hF5 : Flt I52 t u (1, (u : Int)) := ⟨by rw [o5.2 5 (by decide)]; exact h37, (g1 hT4.2.1).1, (g1 hT4.2.1).2, by show (1 : Int) ≠ 0; decide⟩
      refine readDigits_spec (most := 2) h ((o5.E (by decide)).b hb4) hF5.1 k5 (by omega) (fun I57 o6 h57 f1 f2 => ?_)
      have f3 := f2 (Or.inr (by rw [hF5.2.1]; show (1 : Int) ≠ 0; decide))
      exact rp61_bad h (f := (1, (u : Int))) ⟨h57, f3.1.trans hF5.2.1, f3.2.trans hF5.2.2.1, by show (1 : Int) ≠ 0; decide⟩ hv3 (fun I' o h3 => hF I' _ _ ef k6.2 (O4.tr ((o5.E (by decide)).tr ((o6.E (by decide)).tr o))) h3)
theorem v7var {I : MI} {c : Int} (hr : RingV I r nv w) : (vX7_isVariable I c r = 0 ↔ ¬ (120 ≤ c ∧ c < 120 + nv)) := by
  have := hr.2.1
  unfold vX7_isVariable
  rw [hr.1, w32_id (by omega)]
  by_cases h1 : c < 120
  · rw [if_pos h1]; constructor
    · intro _; omega
    · intro _; rfl
  · rw [if_neg h1]
    by_cases h2 : 120 + nv ≤ c
    · rw [if_pos h2]; constructor
      · intro _; omega
      · intro _; rfl
    · rw [if_neg h2]; constructor
      · intro q; exact absurd q (by decide)
      · intro q; exact absurd ⟨by omega, by omega⟩ q
theorem p7var {c : Int} (h : sT S r = 6) : pX7_isVariable S c r := ⟨fun _ => trivial, fun _ => ⟨h, trivial⟩⟩
/-- see tells what is there -/
theorem isF_see {s : Nat} (h3 : nv ≤ 3) : isF b n nv s ↔ (isDg (see b n s) ∨ (120 ≤ see b n s ∧ see b n s < 120 + nv)) := by
  constructor
  · intro h; rw [see_at h.1]; exact h.2
  · intro h
    have hs : s < n := by
      refine see_lt (b := b) (fun z => ?_)
      rw [z] at h
      rcases h with h | h
      · exact absurd h.1 (by decide)
      · exact absurd h.1 (by decide)
    rw [see_at hs] at h
    exact ⟨hs, h⟩
theorem factorIsAhead_spec {Q : Sh → MI → MR → Int → Prop} {I : MI} {q : Nat} (h : TpS S R t) (hrt : r ≠ t) (hrt2 : r + 2 ≠ t) (h6 : sT S r = 6) (hr : RingV I r nv w) (hb : TpB I t b n) (ha : I t 5 = (q : Int)) (hle : q ≤ n)
    (hq1 : ∀ I', offK I I' t K5 → I' t 5 = (sk b n q : Int) → isF b n nv (sk b n q) → Q S I' R 1)
    (hq0 : ∀ I', offK I I' t K5 → I' t 5 = (sk b n q : Int) → ¬ isF b n nv (sk b n q) → Q S I' R 0) : CI G MX7_factorIsAhead [vR t, vR r] S I R Q := by
  refine bX7_factorIsAhead ⟨h.1, ahead_spec h hb ha hle (fun I1 o1 h1 => ?_)⟩
  have hr1 : RingV I1 r nv w := hr.o (o1.1 _ hrt) (o1.1 _ hrt2)
  have i := isF_see (b := b) (n := n) (s := sk b n q) hr.2.1.2
  refine ⟨fun c => ?_, fun c => ⟨p7var h6, fun c2 => ?_, fun c2 => ?_⟩⟩
  · exact hq1 I1 o1 h1 (i.mpr (Or.inl (Decidable.of_not_not (fun z => c ((v7dg _).mpr z)))))
  · refine hq0 I1 o1 h1 (fun z => (i.mp z).elim (fun z1 => ((v7dg _).mp (Decidable.not_not.mp c)) z1) (fun z1 => ((v7var hr1).mp c2) z1))
  · exact hq1 I1 o1 h1 (i.mpr (Or.inr (Decidable.of_not_not (fun z => c2 ((v7var hr1).mpr z)))))
/-- one factor -/
theorem readFactor_spec {I : MI} {q : Nat} {num : Int} {e : Nat → Int} (h : TpS S R t) (hrt : r ≠ t) (hrt2 : r + 2 ≠ t) (h6 : sT S r = 6) (hr : RingV I r nv w) (hnu : R r 1 = nu) (hN : NumS S I nu p) (hnt : nu ≠ t ∧ nu ≠ t + 5) (hb : TpB I t b n) (hT : Tok I t q num e) (hle : q ≤ n)
    (hf : isF b n nv (sk b n q)) (hnum : 0 ≤ num ∧ num < p) (he : ∀ i, i < 3 → 0 ≤ e i ∧ e i ≤ 30)
    (hF : ∀ I' q' f, fac b n p (sk b n q) num e = Sum.inl f → q' ≤ n → offE I I' t → Flt I' t q' f → Q S I' R)
    (hS : ∀ I' q' st, fac b n p (sk b n q) num e = Sum.inr st → q' ≤ n → sk b n q' = st.1 → offE I I' t → Tok I' t q' st.2.1 st.2.2 → Q S I' R) : CV G MX7_readFactor [vR t, vR r] S I R Q := by
  have hn := hb.2.1
  refine bX7_readFactor ⟨h.1, ahead_spec h hb hT.1 hle (fun I1 o1 h1 => ?_)⟩
  have hr1 : RingV I1 r nv w := hr.o (o1.1 _ hrt) (o1.1 _ hrt2)
  have hT1 := hT.k5 o1 h1
  have O1 := o1.E (t := t) (by decide)
  have hb1 := O1.b hb
  have hsn := hf.1
  rw [see_at hsn]
  generalize hs : sk b n q = s at *
  refine ⟨fun c => ?_, fun c => ⟨h6, h.1, ?_⟩⟩
  · have nd := (v7dg _).mp c
    have vb : 120 ≤ b s ∧ b s < 120 + nv := hf.2.resolve_left nd
    have h3 := hr.2.1
    refine ⟨p7var h6, br_f (fun z => ((v7var hr1).mp z) vb) ⟨h.1, ?_⟩⟩
    rw [w32_id (by omega), show b s - 120 = (((b s - 120).toNat : Nat) : Int) by omega]
    exact readPower_spec (p := p) h hb1 hT1 hsn nd (by omega) (by omega) he (fun I' q' f h1 h2 h3 h4 => hF I' q' f h1 h2 (O1.tr h3) h4) (fun I' q' st h1 h2 h3 h4 h5 => hS I' q' st h1 h2 h3 (O1.tr h4) h5)
  · have yd : isDg (b s) := Decidable.of_not_not (fun z => c ((v7dg _).mpr z))
    have ef : fac b n p s num e = (if 5 < (dgs b n 5 s).1 - s then Sum.inl (1, (s : Int)) else Sum.inr (sk b n (dgs b n 5 s).1, num * ((dgs b n 5 s).2 % p) % p, e)) := if_pos yd
    have k6 := dgs_r (b := b) (most := 5) (n := n) (a := s) (by omega)
    have k7 := dgs_v (b := b) (n := n) (most := 5) (a := s) (by omega)
    have k7' : (dgs b n 5 s).2 < 100000 := k7.2
    refine readDigits_spec (most := 5) h hb1 h1 (by omega) (by omega) (fun I27 o2 h27 f1 f2 => ?_)
    have O2 : offE I I27 t := O1.tr (o2.E (by decide))
    have hN2 : NumS S I27 nu p := ⟨hN.1, by rw [O2.1 _ hnt.1 hnt.2]; exact hN.2.1, hN.2.2⟩
    have hp := hN.2.2
    have m0 : 0 ≤ (dgs b n 5 s).2 % p := Int.emod_nonneg _ (by omega)
    have m1 : (dgs b n 5 s).2 % p < p := Int.emod_lt_of_pos _ (by omega)
    rw [hnu, v4r hN2 k7.1 (by omega), hT1.2.2.2.1, v4t hN2 hnum ⟨m0, m1⟩]
    refine ⟨hN.1, p4r hN2, p4t hN2, h.1, fun I36 e36 => ?_⟩
    have O3 : offE I I36 t := O2.tr (offE.u e36 (by decide))
    by_cases hc : 5 < (dgs b n 5 s).1 - s
    · rw [if_pos hc] at ef
      have f3 := f1 hc hT1.2.1
      refine hF I36 _ _ ef k6.2 O3 ⟨by rw [u_o e36 (by omega)]; exact h27, by rw [u_o e36 (by omega)]; exact f3.1, by rw [u_o e36 (by omega)]; exact f3.2, by show (1 : Int) ≠ 0; decide⟩
    · rw [if_neg hc] at ef
      have hT2 := hT1.digits o2 h27 (f2 (Or.inl hc))
      refine hS I36 _ _ ef k6.2 rfl O3 ⟨by rw [u_o e36 (by omega)]; exact h27, by rw [u_o e36 (by omega)]; exact hT2.2.1, by rw [u_o e36 (by omega)]; exact hT2.2.2.1, u_s e36, fun i hi => by rw [u_n e36 (by omega)]; exact hT2.2.2.2.2 i hi⟩
end R7b

