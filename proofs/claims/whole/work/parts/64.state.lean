/-! ===== the state, as both sides hold it; the reference's side ===== -/
/-- number of variables, prime, weights; SLOTS; tape; FAULT and its place; what was shown; division -/
abbrev Ms : Type := (Int × Nat × (Nat → Int)) × (Nat → List Tm) × ((Nat → Int) × Nat) × (Int × Int) × List Int × Option (Int × Nat × Dv)
abbrev Ms.n (s : Ms) : Int := s.1.1
abbrev Ms.p (s : Ms) : Nat := s.1.2.1
abbrev Ms.w (s : Ms) : Nat → Int := s.1.2.2
abbrev Ms.f (s : Ms) : Nat → List Tm := s.2.1
abbrev Ms.b (s : Ms) : Nat → Int := s.2.2.1.1
abbrev Ms.tn (s : Ms) : Nat := s.2.2.1.2
abbrev Ms.fl (s : Ms) : Int × Int := s.2.2.2.1
abbrev Ms.sh (s : Ms) : List Int := s.2.2.2.2.1
abbrev Ms.dv (s : Ms) : Option (Int × Nat × Dv) := s.2.2.2.2.2
def DvOK (p n : Int) (w : Nat → Int) : Option (Int × Nat × Dv) → Prop
  | none => True
  | some (st, a, d) => (0 ≤ st ∧ st < 256) ∧ a < 8 ∧ DivO p n w d
def MsOK (s : Ms) : Prop := (isP s.p ∧ (s.p : Int) ≤ 32749) ∧ (1 ≤ s.n ∧ s.n ≤ 3) ∧ wtOK s.w ∧ (∀ k, k < 8 → okQ (s.p : Int) s.n s.w (s.f k)) ∧ (s.tn ≤ 200 ∧ ∀ i, i < s.tn → 0 ≤ s.b i ∧ s.b i < 256) ∧ s.sh.length ≤ 1080 ∧ DvOK (s.p : Int) s.n s.w s.dv
/-- set bits below k -/
def nb (st : Int) : Nat → Nat
  | 0 => 0
  | k + 1 => nb st k + if bitI st k = 1 then 1 else 0
theorem nbb_le (st : Int) : ∀ k, nb st k ≤ k
  | 0 => Nat.le_refl _
  | k + 1 => by
    have := nbb_le st k
    rw [nb]
    by_cases c : bitI st k = 1
    · rw [if_pos c]; omega
    · rw [if_neg c]; omega
def DvH (I : MI) (m : Nat) (st : Int) (d : Dv) : Prop := (I m 23 = (nb st 8 : Int) ∧ I m 24 = (d.2.1 : Int) ∧ I m 25 = (d.1 : Int)) ∧
  (RowH I m 218 d.2.2.2.1.1 ∧ RowH I m 219 d.2.2.2.1.2.1 ∧ ∀ j, j < 8 → bitI st j = 1 → RowH I m (220 + nb st j) (d.2.2.2.1.2.2 j)) ∧
  (∀ i, i < d.2.1 → RowH I m (8 + 10 * i) (d.2.2.1 i).1 ∧ (nb st 8 ≤ i → RowH I m (9 + 10 * i) (d.2.2.1 i).2.1 ∧ ∀ j, j < 8 → bitI st j = 1 → RowH I m (10 + 10 * i + nb st j) ((d.2.2.1 i).2.2 j))) ∧
  ∀ i, i < d.1 → ∀ j, j < 5 → I (m + 10) (5 * i + j) = d.2.2.2.2 i j
def RefD (I : MI) (m : Nat) : Option (Int × Nat × Dv) → Prop
  | none => I m 20 = 0
  | some (st, a, d) => I m 20 = 1 ∧ I m 21 = st ∧ I m 22 = (a : Int) ∧ DvH I m st d
def RefV (I : MI) (m : Nat) (s : Ms) : Prop := RfW I m s.n s.w ∧ RfP I m (s.p : Int) ∧ (∀ k, k < 8 → RowH I m k (s.f k)) ∧ (I m 11 = (s.tn : Int) ∧ ∀ i, i < s.tn → iand (I (m + 7) i) 255 = s.b i) ∧ (I m 14 = s.fl.1 ∧ I m 15 = s.fl.2) ∧ (I m 19 = (s.sh.length : Int) ∧ Arr I (m + 9) s.sh) ∧ RefD I m s.dv
/-- only scratch changes -/
def offS (I I' : MI) (m : Nat) : Prop := (∀ b, (b < m ∨ m + 14 < b) → I' b = I b) ∧ (I' (m + 1) = I (m + 1) ∧ I' (m + 7) = I (m + 7) ∧ I' (m + 9) = I (m + 9) ∧ I' (m + 10) = I (m + 10)) ∧ (∀ j, j ≠ 0 → j ≠ 9 → j ≠ 12 → j ≠ 13 → j ≠ 16 → j ≠ 28 → I' m j = I m j) ∧ (∀ j, j < 290 → I' (m + 2) j = I (m + 2) j) ∧ (∀ j, j < 17400 → I' (m + 3) j = I (m + 3) j) ∧ ∀ j, j < 52200 → I' (m + 4) j = I (m + 4) j
theorem offS.rf {I : MI} {m : Nat} : offS I I m := ⟨fun _ _ => rfl, ⟨rfl, rfl, rfl, rfl⟩, fun _ _ _ _ _ _ _ => rfl, fun _ _ => rfl, fun _ _ => rfl, fun _ _ => rfl⟩
theorem offS.tr {I I1 I2 : MI} {m : Nat} (h : offS I I1 m) (h2 : offS I1 I2 m) : offS I I2 m := ⟨fun b x => (h2.1 b x).trans (h.1 b x), ⟨h2.2.1.1.trans h.2.1.1, h2.2.1.2.1.trans h.2.1.2.1, h2.2.1.2.2.1.trans h.2.1.2.2.1, h2.2.1.2.2.2.trans h.2.1.2.2.2⟩, fun j a b c d e g => (h2.2.2.1 j a b c d e g).trans (h.2.2.1 j a b c d e g), fun j x => (h2.2.2.2.1 j x).trans (h.2.2.2.1 j x), fun j x => (h2.2.2.2.2.1 j x).trans (h.2.2.2.2.1 j x), fun j x => (h2.2.2.2.2.2 j x).trans (h.2.2.2.2.2 j x)⟩
theorem offD.toS {I I' : MI} {m : Nat} (h : offD I I' m) : offS I I' m := by
  have g : ∀ b, b ≠ m → b ≠ m + 5 → b ≠ m + 6 → b ≠ m + 11 → b ≠ m + 12 → b ≠ m + 13 → b ≠ m + 14 → I' b = I b := h.1
  refine ⟨fun b hb => g b (by omega) (by omega) (by omega) (by omega) (by omega) (by omega) (by omega), ⟨g _ (by omega) (by omega) (by omega) (by omega) (by omega) (by omega) (by omega), g _ (by omega) (by omega) (by omega) (by omega) (by omega) (by omega) (by omega), g _ (by omega) (by omega) (by omega) (by omega) (by omega) (by omega) (by omega), g _ (by omega) (by omega) (by omega) (by omega) (by omega) (by omega) (by omega)⟩, fun j _ j9 _ _ _ j28 => h.2 j j9 j28, fun j _ => ?_, fun j _ => ?_, fun j _ => ?_⟩
  · rw [g (m + 2) (by omega) (by omega) (by omega) (by omega) (by omega) (by omega) (by omega)]
  · rw [g (m + 3) (by omega) (by omega) (by omega) (by omega) (by omega) (by omega) (by omega)]
  · rw [g (m + 4) (by omega) (by omega) (by omega) (by omega) (by omega) (by omega) (by omega)]
theorem offH.toS {I I' : MI} {m : Nat} (h : offH I I' m) : offS I I' m := h.toD.toS
theorem offRow.toS {I I' : MI} {m r : Nat} (h : offRow I I' m r) (hr : 290 ≤ r) : offS I I' m :=
  ⟨fun b hb => h.1 b (by omega) (by omega) (by omega), ⟨h.1 _ (by omega) (by omega) (by omega), h.1 _ (by omega) (by omega) (by omega), h.1 _ (by omega) (by omega) (by omega), h.1 _ (by omega) (by omega) (by omega)⟩, fun j _ _ _ _ _ _ => by rw [h.1 m (by omega) (by omega) (by omega)], fun j hj => h.2.1 j (by omega), fun j hj => h.2.2.1 j (by omega), fun j hj => h.2.2.2 j (by omega)⟩
theorem offS.u {I I' : MI} {m k : Nat} {v : Int} (e : I' = up2 I m k v) (hk : k = 0 ∨ k = 9 ∨ k = 12 ∨ k = 13 ∨ k = 16 ∨ k = 28) : offS I I' m :=
  ⟨fun b hb => u_n e (by omega), ⟨u_n e (by omega), u_n e (by omega), u_n e (by omega), u_n e (by omega)⟩, fun j _ _ _ _ _ _ => u_o e (by omega), fun j _ => by rw [u_n e (by omega)], fun j _ => by rw [u_n e (by omega)], fun j _ => by rw [u_n e (by omega)]⟩
theorem off1.toS {I I' : MI} {m c : Nat} (h : off1 I I' c) (hc : c = m + 5 ∨ c = m + 6 ∨ c = m + 8 ∨ (m + 11 ≤ c ∧ c ≤ m + 14)) : offS I I' m :=
  ⟨fun b hb => h b (by omega), ⟨h _ (by omega), h _ (by omega), h _ (by omega), h _ (by omega)⟩, fun j _ _ _ _ _ _ => by rw [h m (by omega)], fun j _ => by rw [h _ (by omega)], fun j _ => by rw [h _ (by omega)], fun j _ => by rw [h _ (by omega)]⟩
section RV
variable {I I' : MI} {m r : Nat} {n p : Int} {w : Nat → Int} {L : List Tm} {s : Ms}
theorem RfW.oS (h : RfW I m n w) (ho : offS I I' m) : RfW I' m n w := ⟨by rw [ho.2.2.1 1 (by omega) (by omega) (by omega) (by omega) (by omega) (by omega)]; exact h.1, h.2.1, fun i hi => by rw [ho.2.1.1]; exact h.2.2.1 i hi, h.2.2.2⟩
theorem RfP.oS (h : RfP I m p) (ho : offS I I' m) : RfP I' m p := ⟨by rw [ho.2.2.1 2 (by omega) (by omega) (by omega) (by omega) (by omega) (by omega)]; exact h.1, h.2⟩
theorem RowH.oS (h : RowH I m r L) (hl : L.length ≤ 60) (hr : r < 290) (ho : offS I I' m) : RowH I' m r L :=
  h.o hl (ho.2.2.2.1 r hr) (fun j hj => ho.2.2.2.2.1 _ (by omega)) (fun j hj => ho.2.2.2.2.2 _ (by omega))
theorem DvH.oS {st : Int} {d : Dv} (h : DvH I m st d) (hd : DivO p n w d) (ho : offS I I' m) : DvH I' m st d := by
  have n8 := nbb_le st 8
  refine ⟨?_, ⟨h.2.1.1.oS hd.2.1.1.2.2 (by omega) ho, h.2.1.2.1.oS hd.2.1.2.1.2.2 (by omega) ho, fun j hj hb => (h.2.1.2.2 j hj hb).oS (hd.2.1.2.2 j hj).2.2 (by have := nbb_le st j; omega) ho⟩, fun i hi => ?_, fun i hi j hj => by rw [ho.2.1.2.2.2]; exact h.2.2.2 i hi j hj⟩
  · rw [ho.2.2.1 23 (by omega) (by omega) (by omega) (by omega) (by omega) (by omega), ho.2.2.1 24 (by omega) (by omega) (by omega) (by omega) (by omega) (by omega), ho.2.2.1 25 (by omega) (by omega) (by omega) (by omega) (by omega) (by omega)]
    exact h.1
  · have hi20 := hd.1.2
    have k := h.2.2.1 i hi
    have o := hd.2.2 i hi
    refine ⟨k.1.oS o.1.2.2 (by omega) ho, fun q => ⟨(k.2 q).1.oS o.2.1.2.2 (by omega) ho, fun j hj hb => ((k.2 q).2 j hj hb).oS (o.2.2 j hj).2.2 (by have := nbb_le st j; omega) ho⟩⟩
theorem RefD.oS {dv : Option (Int × Nat × Dv)} (h : RefD I m dv) (hd : DvOK p n w dv) (ho : offS I I' m) : RefD I' m dv := by
  cases dv with
  | none =>
    show I' m 20 = 0
    rw [ho.2.2.1 20 (by omega) (by omega) (by omega) (by omega) (by omega) (by omega)]; exact h
  | some x =>
    obtain ⟨st, a, d⟩ := x
    have hd2 : (0 ≤ st ∧ st < 256) ∧ a < 8 ∧ DivO p n w d := hd
    have h2 : I m 20 = 1 ∧ I m 21 = st ∧ I m 22 = (a : Int) ∧ DvH I m st d := h
    show I' m 20 = 1 ∧ I' m 21 = st ∧ I' m 22 = (a : Int) ∧ DvH I' m st d
    rw [ho.2.2.1 20 (by omega) (by omega) (by omega) (by omega) (by omega) (by omega), ho.2.2.1 21 (by omega) (by omega) (by omega) (by omega) (by omega) (by omega), ho.2.2.1 22 (by omega) (by omega) (by omega) (by omega) (by omega) (by omega)]
    exact ⟨h2.1, h2.2.1, h2.2.2.1, h2.2.2.2.oS hd2.2.2 ho⟩
theorem RefV.oS (h : RefV I m s) (hs : MsOK s) (ho : offS I I' m) : RefV I' m s := by
  refine ⟨h.1.oS ho, h.2.1.oS ho, fun k hk => (h.2.2.1 k hk).oS (hs.2.2.2.1 k hk).2.2 (by omega) ho, ?_, ?_, ?_, h.2.2.2.2.2.2.oS hs.2.2.2.2.2.2 ho⟩
  · rw [ho.2.2.1 11 (by omega) (by omega) (by omega) (by omega) (by omega) (by omega), ho.2.1.2.1]; exact h.2.2.2.1
  · rw [ho.2.2.1 14 (by omega) (by omega) (by omega) (by omega) (by omega) (by omega), ho.2.2.1 15 (by omega) (by omega) (by omega) (by omega) (by omega) (by omega)]; exact h.2.2.2.2.1
  · rw [ho.2.2.1 19 (by omega) (by omega) (by omega) (by omega) (by omega) (by omega)]
    refine ⟨h.2.2.2.2.2.1.1, fun i x hx => ?_⟩
    rw [ho.2.1.2.2.1]; exact h.2.2.2.2.2.1.2 i x hx
theorem offS.X (h : offS I I' m) : offX I I' m (m + 14) := h.1
theorem offRow.X (h : offRow I I' m r) : offX I I' m (m + 14) := fun b hb => h.1 b (by omega) (by omega) (by omega)
/-- a SLOT is written -/
theorem RefV.put {k : Nat} (h : RefV I m s) (hs : MsOK s) (ho : offRow I I' m k) (hk : k < 8) (hL : RowH I' m k L) : RefV I' m (s.1, upT s.2.1 k L, s.2.2) := by
  have em : I' m = I m := ho.1 m (by omega) (by omega) (by omega)
  refine ⟨h.1.oR ho, h.2.1.oR ho, fun j hj => ?_, ?_, ?_, ?_, ?_⟩
  · show RowH I' m j (if j = k then L else s.2.1 j)
    by_cases q : j = k
    · rw [if_pos q, q]; exact hL
    · rw [if_neg q]; exact (h.2.2.1 j hj).oR (hs.2.2.2.1 j hj).2.2 ho q
  · rw [em, ho.1 (m + 7) (by omega) (by omega) (by omega)]; exact h.2.2.2.1
  · rw [em]; exact h.2.2.2.2.1
  · refine ⟨by rw [em]; exact h.2.2.2.2.2.1.1, fun i x hx => ?_⟩
    rw [ho.1 (m + 9) (by omega) (by omega) (by omega)]; exact h.2.2.2.2.2.1.2 i x hx
  · have hd := h.2.2.2.2.2.2
    have hok := hs.2.2.2.2.2.2
    show RefD I' m s.2.2.2.2.2
    revert hd hok
    show RefD I m s.2.2.2.2.2 → DvOK (s.p : Int) s.n s.w s.2.2.2.2.2 → RefD I' m s.2.2.2.2.2
    generalize s.2.2.2.2.2 = dv
    intro hd hok
    cases dv with
    | none => show I' m 20 = 0; rw [em]; exact hd
    | some x =>
      obtain ⟨st, a, d⟩ := x
      have hd2 : (0 ≤ st ∧ st < 256) ∧ a < 8 ∧ DivO (s.p : Int) s.n s.w d := hok
      have h2 : I m 20 = 1 ∧ I m 21 = st ∧ I m 22 = (a : Int) ∧ DvH I m st d := hd
      show I' m 20 = 1 ∧ I' m 21 = st ∧ I' m 22 = (a : Int) ∧ DvH I' m st d
      rw [em]
      have g := h2.2.2.2
      have o := hd2.2.2
      refine ⟨h2.1, h2.2.1, h2.2.2.1, by rw [em]; exact g.1, ⟨g.2.1.1.oR o.2.1.1.2.2 ho (by omega), g.2.1.2.1.oR o.2.1.2.1.2.2 ho (by omega), fun j hj hb => (g.2.1.2.2 j hj hb).oR (o.2.1.2.2 j hj).2.2 ho (by omega)⟩, fun i hi => ?_, fun i hi j hj => by rw [ho.1 (m + 10) (by omega) (by omega) (by omega)]; exact g.2.2.2 i hi j hj⟩
      have k1 := g.2.2.1 i hi
      have o1 := o.2.2 i hi
      exact ⟨k1.1.oR o1.1.2.2 ho (by omega), fun q => ⟨(k1.2 q).1.oR o1.2.1.2.2 ho (by omega), fun j hj hb => ((k1.2 q).2 j hj hb).oR (o1.2.2 j hj).2.2 ho (by omega)⟩⟩
end RV
