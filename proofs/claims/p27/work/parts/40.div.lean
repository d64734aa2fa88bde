/-! ===== X0: weak division ===== -/
def RdD (R R' : MR) (d : Nat) : Prop := ∀ c, c ≠ d → R' c = R c
theorem PolyS.r {S : Sh} {R R' : MR} {a cap d : Nat} (h : PolyS S R a cap) (hr : RdD R R' d) (hd : a ≠ d) : PolyS S R' a cap := ⟨h.1, by rw [hr a hd]; exact h.2.1, by rw [hr a hd]; exact h.2.2.1, h.2.2.2⟩
theorem EqS.r {S : Sh} {R R' : MR} {e d : Nat} (h : EqS S R e) (hr : RdD R R' d) (hd : d < e ∨ e + 31 < d) : EqS S R' e :=
  ⟨h.1, by rw [hr e (by omega)]; exact h.2.1, h.2.2.1.r hr (by omega), h.2.2.2.1.r hr (by omega), h.2.2.2.2.1, fun k hk => ⟨by rw [hr (e + 7) (by omega)]; exact (h.2.2.2.2.2 k hk).1, (h.2.2.2.2.2 k hk).2.r hr (by omega)⟩⟩
def DivS (S : Sh) (R : MR) (d nw af : Nat) : Prop := sT S d = 1 ∧ (R d 5 = d + 1 ∧ R d 6 = d + 2 ∧ R d 7 = nw ∧ R d 8 = af) ∧ ((nw = d + 43 ∧ af = d + 75) ∨ (nw = d + 75 ∧ af = d + 43)) ∧ (sT S (d + 1) = 25 ∧ sL S (d + 1) = 20 ∧ sT S (d + 2) = 27 ∧ sL S (d + 2) = 40) ∧
  (∀ i, i < 40 → R (d + 2) i = d + 3 + i ∧ sT S (d + 3 + i) = 21 ∧ sL S (d + 3 + i) = 5) ∧ (EqS S R nw ∧ EqS S R af) ∧ ∀ i, i < 20 → R (d + 1) i = d + 107 + 32 * i ∧ EqS S R (d + 107 + 32 * i)
def DivV (I : MI) (d nw : Nat) (s : Dv) : Prop := (I d 3 = (s.1 : Int) ∧ I d 4 = (s.2.1 : Int)) ∧ HasE I nw s.2.2.2.1 ∧ (∀ i, i < s.2.1 → HasE I (d + 107 + 32 * i) (s.2.2.1 i)) ∧ ∀ i, i < s.1 → ∀ j, j < 5 → I (d + 3 + i) j = s.2.2.2.2 i j
def DivO (p nv : Int) (w : Nat → Int) (s : Dv) : Prop := (s.1 ≤ 40 ∧ s.2.1 ≤ 20) ∧ okE3 p nv w s.2.2.2.1 ∧ ∀ i, i < s.2.1 → okE3 p nv w (s.2.2.1 i)
/-- outside of the division, and which SLOT and SET, all stays -/
def offV (I I' : MI) (d : Nat) : Prop := offX I I' d (d + 746) ∧ I' d 1 = I d 1 ∧ I' d 2 = I d 2
theorem offV.rf {I : MI} {d : Nat} : offV I I d := ⟨offX.rf, rfl, rfl⟩
theorem offV.tr {I I1 I2 : MI} {d : Nat} (h : offV I I1 d) (h2 : offV I1 I2 d) : offV I I2 d := ⟨h.1.tr h2.1, h2.2.1.trans h.2.1, h2.2.2.trans h.2.2⟩
theorem offX.V {I I' : MI} {d lo hi : Nat} (h : offX I I' lo hi) (h1 : d < lo) (h2 : hi ≤ d + 746) : offV I I' d := ⟨h.wk (by omega) h2, by rw [h d (by omega)], by rw [h d (by omega)]⟩
theorem offV.u {I I' : MI} {d b k : Nat} {v : Int} (e : I' = up2 I b k v) (hb : (d < b ∧ b ≤ d + 746) ∨ (b = d ∧ k ≠ 1 ∧ k ≠ 2)) : offV I I' d := by
  refine ⟨fun c hc => u_n e (by omega), ?_, ?_⟩
  · by_cases hbd : d = b
    · subst hbd; exact u_o e (by omega)
    · rw [u_n e hbd]
  · by_cases hbd : d = b
    · subst hbd; exact u_o e (by omega)
    · rw [u_n e hbd]
theorem okE3.len {p nv : Int} {w : Nat → Int} {E : Eq3} (h : okE3 p nv w E) : len60 E := ⟨h.1.2.2, h.2.1.2.2, fun k hk => (h.2.2 k hk).2.2⟩
theorem okQ.ms {p nv : Int} {w : Nat → Int} {L : List Tm} (h : okQ p nv w L) : okms L := fun t ht => (h.2.1 t ht).1
theorem ne_len {α : Type} {L : List α} : L ≠ [] ↔ L.length ≠ 0 := ⟨fun h q => h (List.length_eq_zero_iff.mp q), fun h q => h (by rw [q]; rfl)⟩
section R0
variable {G : Gl} {S : Sh} {R : MR} {d nw af nu : Nat} {p nv : Int} {w : Nat → Int} {s : Dv}
theorem DivS.na (h : DivS S R d nw af) : (nw = d + 43 ∨ nw = d + 75) ∧ (af = d + 43 ∨ af = d + 75) ∧ nw ≠ af := by
  have := h.2.2.1; omega
theorem hd_ok {L : List Tm} (h : okQ p nv w L) (hn : L ≠ []) : okK nv w (hdM L) ∧ 0 < hdN L ∧ hdN L < p := ⟨h.2.1 _ (hd_mem hn), h.1.2 _ (hd_mem hn)⟩
theorem subtract_spec {I : MI} {Q : Sh → MI → MR → Int → Prop} {by_ : Nat} {E F : Eq3} (h : DivS S R d nw af) (hb : EqS S R by_) (hE : HasE I nw E) (hF : HasE I by_ F) (a2 : by_ + 31 < af ∨ af + 31 < by_) (hw : wtOK w) (oE : okE3 p nv w E) (oF : okE3 p nv w F) (hN : NumS S I nu p) (an : nu < d ∨ d + 746 < nu)
    (hE0 : E.1 ≠ []) (hF0 : F.1 ≠ []) (hd : dvs (hdM F.1) (hdM E.1))
    (hy : ∀ I' R', offX I I' af (af + 31) → RdD R R' d → DivS S R' d af nw → fitE (nowD p E F) → HasE I' af (nowD p E F) → Q S I' R' 1)
    (hn : ∀ I' R', offX I I' af (af + 31) → RdD R R' d → DivS S R' d af nw → ¬ fitE (nowD p E F) → Q S I' R' 0) : CI G MX0_subtract [vR d, vR by_, vR nu] S I R Q := by
  have hnaf := h.na
  have eqn := h.2.2.2.2.2.1.1
  have eqa := h.2.2.2.2.2.1.2
  have kE := hd_ok oE.1 hE0
  have kF := hd_ok oF.1 hF0
  have hdE := hE.1.hd hE0
  have hdF := hF.1.hd hF0
  have hp := hN.2.2
  have t0 : Int.toNat 0 = 0 := rfl
  have hinv := inv_r (p := p) (x := hdN F.1) hp.1
  have tm0 : 0 ≤ tmsD p E.1 F.1 := Int.emod_nonneg _ (by omega)
  have tm1 : tmsD p E.1 F.1 < p := Int.emod_lt_of_pos _ (by omega)
  have kr1 := (kE.1).1
  have kr2 := (kF.1).1
  refine bX0_subtract ⟨h.1, ?_⟩
  rw [h.2.1.2.2.1, eqn.2.1.1, t0]
  refine ⟨eqn.1, eqn.2.2.1.1, ?_⟩
  rw [hE.1.1]
  refine br_f (by have := ne_len.mp hE0; omega) ⟨hb.1, ?_⟩
  rw [hb.2.1.1, hF.1.1, eqn.2.2.1.2.2.1, hb.2.2.1.2.2.1, eqn.2.2.1.2.2.2.2.1, hb.2.2.1.2.2.2.2.1, eqn.2.2.1.2.2.2.2.2.2, hb.2.2.1.2.2.2.2.2.2, show nw + 1 + 2 = nw + 1 + 2 from rfl, hdE.2, hdF.2]
  refine ⟨hb.2.2.1.1, br_t (by have := ne_len.mp hF0; omega) ⟨rfl, ⟨by omega, by omega⟩, rfl, ⟨by omega, by omega⟩, hN.1, ?_⟩⟩
  refine inv_spec hN ⟨by omega, by omega⟩ ?_
  rw [h.2.1.2.2.1, h.2.1.2.2.2, eqn.2.1.1, eqn.2.2.1.2.1, eqn.2.2.1.2.2.2.1, eqn.2.2.1.2.2.2.2.2.1, hb.2.1.1, hb.2.2.1.2.1, hb.2.2.1.2.2.2.1, hb.2.2.1.2.2.2.2.2.1, hdE.1, hdF.1, v4t hN ⟨by omega, by omega⟩ hinv, show hdN E.1 * inv p (hdN F.1) % p = tmsD p E.1 F.1 from rfl, vby ⟨kr1.1, kr1.2.1⟩ ⟨kr2.1, kr2.2.1⟩, v4n hN ⟨tm0, tm1⟩, show (if tmsD p E.1 F.1 = 0 then 0 else p - tmsD p E.1 F.1) = ngP p (tmsD p E.1 F.1) from rfl]
  refine ⟨hN.1, p4t hN, h.1, eqn.1, eqn.2.2.1.1, rfl, ⟨by omega, by omega⟩, hb.1, hb.2.2.1.1, rfl, ⟨by omega, by omega⟩, p4n hN, eqa.1, ?_⟩
  have hshr := sh_r hw kE.1 kF.1 hd
  have mo : ∀ {f g : List Tm}, okQ p nv w f → okQ p nv w g → mixOk p (hdM E.1 - hdM F.1 + 262143) f g := fun hf hg => mixOk_of hw hf hg kE.1 kF.1 hd
  have fin : ∀ (R' : MR), RdD R R' d → R' d 5 = R d 5 → R' d 6 = R d 6 → R' d 7 = af → R' d 8 = nw → DivS S R' d af nw := fun R' hr r5 r6 r7 r8 =>
    ⟨h.1, ⟨by rw [r5]; exact h.2.1.1, by rw [r6]; exact h.2.1.2.1, r7, r8⟩, by have := h.2.2.1; omega, h.2.2.2.1, fun i hi => ⟨by rw [hr (d + 2) (by omega)]; exact (h.2.2.2.2.1 i hi).1, (h.2.2.2.2.1 i hi).2⟩, ⟨eqa.r hr (by omega), eqn.r hr (by omega)⟩, fun i hi => ⟨by rw [hr (d + 1) (by omega)]; exact (h.2.2.2.2.2.2 i hi).1, (h.2.2.2.2.2.2 i hi).2.r hr (by omega)⟩⟩
  have ee : nowD p E F = mixE p (ngP p (tmsD p E.1 F.1)) (hdM E.1 - hdM F.1 + 262143 - 262143) E F := by unfold nowD; rw [show hdM E.1 - hdM F.1 + 262143 - 262143 = hdM E.1 - hdM F.1 by omega]
  rw [ee] at hy hn
  refine emix_spec (num := ngP p (tmsD p E.1 F.1)) eqa eqn hb hE hF (by omega) (by omega) hN (by omega) (ngP_r ⟨tm0, tm1⟩) hshr (mo oE.1 oF.1) (mo oE.2.1 oF.2.1) (fun k hk => mo (oE.2.2 k hk) (oF.2.2 k hk)) (fun I' o f hh => ⟨h.1, fun R114 e114 R120 e120 => ⟨Or.inr rfl, ?_⟩⟩) (fun I' o f => ⟨h.1, fun R114 e114 R120 e120 => ⟨Or.inl rfl, ?_⟩⟩)
  all_goals
    rw [h.2.1.2.2.2] at e114
    rw [h.2.1.2.2.1] at e120
    have hr : RdD R R120 d := fun c hc => by rw [u_n e120 hc, u_n e114 hc]
    have hd' := fin R120 hr (by rw [u_o e120 (by omega), u_o e114 (by omega)]) (by rw [u_o e120 (by omega), u_o e114 (by omega)]) (by rw [u_o e120 (by omega), u_s e114]) (u_s e120)
  · exact hy I' R120 o hr hd' f hh
  · exact hn I' R120 o hr hd' f
theorem bestDivisor_spec {I : MI} {Q : Sh → MI → MR → Int → Prop} (h : DivS S R d nw af) (hv : DivV I d nw s) (ho : DivO p nv w s) (hq : Q S I R (bestD s.2.2.1 s.2.2.2.1.1 s.2.1)) : CI G MX0_bestDivisor [vR d] S I R Q := by
  have eqn := h.2.2.2.2.2.1.1
  have t0 : Int.toNat 0 = 0 := rfl
  have hm := ho.1.2
  unfold bestD at hq
  refine bX0_bestDivisor ⟨h.1, ?_⟩
  rw [h.2.1.2.2.1, eqn.2.1.1, hv.2.1.1.1]
  refine ⟨eqn.1, eqn.2.2.1.1, fun c => ?_, fun c => ?_⟩
  · have hne : s.2.2.2.1.1 ≠ [] := ne_len.mpr (by omega)
    rw [if_neg hne] at hq
    have kE := hd_ok ho.2.1.1 hne
    have hdE := hv.2.1.1.hd hne
    have loop : ∀ (k i : Nat), s.2.1 - i = k → i ≤ s.2.1 → LX0_bestDivisor_21 G d (bst s.2.2.1 s.2.2.2.1.1 i).1 (bst s.2.2.1 s.2.2.2.1.1 i).2 (i : Int) S I R Q := by
      intro k
      induction k with
      | zero =>
        intro i hk hi
        have e : i = s.2.1 := by omega
        refine bX0_bestDivisor_21 ⟨h.1, ?_⟩
        rw [hv.1.2]
        exact br_t (by omega) (by rw [e]; exact hq)
      | succ k ih =>
        intro i hk hi
        have his : i < s.2.1 := by omega
        have eqi := h.2.2.2.2.2.2 i (by omega)
        have hE := hv.2.2.1 i his
        have oi := (ho.2.2 i his).1
        have next : LX0_bestDivisor_21 G d (bst s.2.2.1 s.2.2.2.1.1 (i + 1)).1 (bst s.2.2.1 s.2.2.2.1.1 (i + 1)).2 (w32 ((i : Int) + 1)) S I R Q := by
          rw [add1 (by omega)]; exact ih (i + 1) (by omega) (by omega)
        rw [bst] at next
        have pe := p5ec (I := I) eqi.2.2.2.1 hE.1 oi.2.2 (by omega)
        have ve := v5ec (I := I) eqi.2.2.2.1 hE.1 oi.ms (by have := oi.2.2; omega)
        have b84 : ∀ y : Int, (y = 0 → ¬ ((s.2.2.1 i).1 ≠ [] ∧ (exx (hdM (s.2.2.1 i).1) ≤ exx (hdM s.2.2.2.1.1) ∧ exy (hdM (s.2.2.1 i).1) ≤ exy (hdM s.2.2.2.1.1) ∧ exz (hdM (s.2.2.1 i).1) ≤ exz (hdM s.2.2.2.1.1)))) → (y ≠ 0 → ((s.2.2.1 i).1 ≠ [] ∧ (exx (hdM (s.2.2.1 i).1) ≤ exx (hdM s.2.2.2.1.1) ∧ exy (hdM (s.2.2.1 i).1) ≤ exy (hdM s.2.2.2.1.1) ∧ exz (hdM (s.2.2.1 i).1) ≤ exz (hdM s.2.2.2.1.1)))) →
            LX0_bestDivisor_84 G d (bst s.2.2.1 s.2.2.2.1.1 i).1 (bst s.2.2.1 s.2.2.2.1.1 i).2 (i : Int) (d + 107 + 32 * i + 1) y S I R Q := by
          intro y hy0 hy1
          refine bX0_bestDivisor_84 ⟨fun c2 => ?_, fun c2 => ⟨fun c3 => ⟨eqi.2.2.2.1.1, pe, ?_⟩, fun c3 => ⟨eqi.2.2.2.1.1, pe, ?_⟩⟩⟩
          · rw [if_neg (fun q => hy0 c2 ⟨q.1, q.2.1⟩)] at next; exact next
          · have yy := hy1 c2
            rw [if_pos ⟨yy.1, yy.2, Or.inl c3⟩] at next
            rw [ve]; exact next
          · have yy := hy1 c2
            rw [ve]
            refine ⟨fun c4 => ?_, fun c4 => ?_⟩
            · rw [if_neg (fun q => q.2.2.elim c3 (fun z => by omega))] at next; exact next
            · rw [if_pos ⟨yy.1, yy.2, Or.inr (by omega)⟩] at next; exact next
        refine bX0_bestDivisor_21 ⟨h.1, ?_⟩
        rw [hv.1.2, h.2.1.1, h.2.2.2.1.1, h.2.2.2.1.2.1, show Int.toNat (i : Int) = i by omega, eqi.1, eqi.2.2.1.1, hE.1.1, eqi.2.2.2.1.2.1, eqi.2.2.2.1.2.2.2.1, eqi.2.2.2.1.2.2.2.2.2.1, h.2.1.2.2.1, eqn.2.1.1, eqn.2.2.1.2.1, eqn.2.2.1.2.2.2.1, eqn.2.2.1.2.2.2.2.2.1, t0, hdE.1]
        refine br_f (by omega) (br_f (by omega) ⟨rfl, ⟨by omega, by omega⟩, eqi.2.1, eqi.2.2.2.1.1, fun c2 => ?_, fun c2 => ?_⟩)
        · exact b84 0 (fun _ q => ne_len.mp q.1 (by omega)) (fun z => absurd rfl z)
        · have hni : (s.2.2.1 i).1 ≠ [] := ne_len.mpr (by omega)
          have kI := hd_ok oi hni
          rw [(hE.1.hd hni).1, vdiv kI.1.1.i kE.1.1.i]
          refine ⟨rfl, ⟨by omega, by omega⟩, eqn.1, eqn.2.2.1.1, rfl, ⟨by omega, by omega⟩, fun c3 => ?_, fun c3 => ?_⟩
          · refine b84 0 (fun _ q => ?_) (fun z => absurd rfl z)
            rw [if_pos q.2] at c3
            exact absurd c3 (by decide)
          · refine b84 1 (fun z => absurd z (by decide)) (fun _ => ⟨hni, ?_⟩)
            exact Decidable.of_not_not (fun z => c3 (if_neg z))
    exact loop s.2.1 0 (by omega) (by omega)
  · have hne : s.2.2.2.1.1 = [] := List.length_eq_zero_iff.mp (by omega)
    rw [if_pos hne] at hq
    exact hq
end R0

