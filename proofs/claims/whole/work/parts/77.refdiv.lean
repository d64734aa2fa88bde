/-! ===== X10: weak division, its parts ===== -/
theorem hld_bit (f : Nat → List Tm) (set : Int) {k : Nat} : ∀ (d : Nat), bitI (hld f set (k + 1 + d)) k = if bitI set k = 1 ∧ f k ≠ [] then 1 else 0
  | 0 => by
    have r := hld_r f set k
    have hp : (0 : Int) < ((2 ^ k : Nat) : Int) := by have := Nat.two_pow_pos k; omega
    show bitI (hld f set (k + 1)) k = _
    rw [hld]
    unfold bitI
    by_cases c : set / ((2 ^ k : Nat) : Int) % 2 = 1 ∧ f k ≠ []
    · have c' : bitI set k = 1 ∧ f k ≠ [] := c
      rw [if_pos c, if_pos c]
      have e : (hld f set k + ((2 ^ k : Nat) : Int)) / ((2 ^ k : Nat) : Int) = 1 := by
        have := Int.add_mul_ediv_right (hld f set k) 1 (show ((2 ^ k : Nat) : Int) ≠ 0 by omega)
        rw [Int.one_mul] at this
        rw [this, Int.ediv_eq_zero_of_lt r.1 r.2]; rfl
      rw [e]; rfl
    · have c' : ¬ (bitI set k = 1 ∧ f k ≠ []) := c
      rw [if_neg c, if_neg c, Int.add_zero, Int.ediv_eq_zero_of_lt r.1 r.2]; rfl
  | d + 1 => by
    have ih := hld_bit f set (k := k) d
    have hp : (0 : Int) < ((2 ^ k : Nat) : Int) := by have := Nat.two_pow_pos k; omega
    rw [show k + 1 + (d + 1) = (k + 1 + d) + 1 by omega, hld]
    by_cases c : bitI set (k + 1 + d) = 1 ∧ f (k + 1 + d) ≠ []
    · rw [if_pos c, ← ih]
      unfold bitI
      have e : ((2 ^ (k + 1 + d) : Nat) : Int) = ((2 * 2 ^ d : Nat) : Int) * ((2 ^ k : Nat) : Int) := by
        rw [← Int.natCast_mul]; congr 1
        rw [show k + 1 + d = 1 + d + k by omega, Nat.pow_add, Nat.pow_add, Nat.pow_one]
      rw [e, Int.add_mul_ediv_right _ _ (show ((2 ^ k : Nat) : Int) ≠ 0 by omega)]
      omega
    · rw [if_neg c, Int.add_zero]; exact ih
theorem hld_b8 (f : Nat → List Tm) (set : Int) {k : Nat} (hk : k < 8) : bitI (hld f set 8) k = if bitI set k = 1 ∧ f k ≠ [] then 1 else 0 := by
  have := hld_bit f set (k := k) (7 - k)
  rw [show k + 1 + (7 - k) = 8 by omega] at this; exact this
theorem begT_nb (p : Int) (f : Nat → List Tm) (st : Int) : ∀ k, (begT p f st k).1 = nb st k
  | 0 => rfl
  | k + 1 => by
    have ih := begT_nb p f st k
    rw [begT, nb]
    by_cases c : bitI st k = 1
    · rw [if_pos c, if_pos c]; show (begT p f st k).1 + 1 = _; omega
    · rw [if_neg c, if_neg c]; omega
theorem nb_mono (st : Int) {i : Nat} : ∀ d, nb st i ≤ nb st (i + d)
  | 0 => Nat.le_refl _
  | d + 1 => by
    have := nb_mono st (i := i) d
    rw [show i + (d + 1) = (i + d) + 1 by omega, nb]; omega
theorem nb_lt {st : Int} {i j : Nat} (h : i < j) (hb : bitI st i = 1) : nb st i < nb st j := by
  have := nb_mono st (i := i + 1) (j - (i + 1))
  rw [show i + 1 + (j - (i + 1)) = j by omega, nb, if_pos hb] at this
  omega
theorem nb_inj {st : Int} {i j : Nat} (hi : bitI st i = 1) (hj : bitI st j = 1) (h : nb st i = nb st j) : i = j := by
  rcases Nat.lt_trichotomy i j with q | q | q
  · have := nb_lt q hi; omega
  · exact q
  · have := nb_lt q hj; omega
theorem nb_inv {st : Int} : ∀ {k r : Nat}, r < nb st k → ∃ j, j < k ∧ bitI st j = 1 ∧ nb st j = r
  | 0, r, h => absurd h (Nat.not_lt_zero _)
  | k + 1, r, h => by
    rw [nb] at h
    by_cases c : r < nb st k
    · obtain ⟨j, h1, h2⟩ := nb_inv c
      exact ⟨j, by omega, h2⟩
    · by_cases d : bitI st k = 1
      · rw [if_pos d] at h
        exact ⟨k, by omega, d, by omega⟩
      · rw [if_neg d] at h; omega
/-- what a division's state keeps, but for rows -/
def DvM (p st : Int) (d : Dv) : Prop := nb st 8 ≤ d.2.1 ∧ (∀ i, i < d.2.1 → (d.2.2.1 i).1 ≠ []) ∧ (∀ j, j < 8 → ¬ bitI st j = 1 → d.2.2.2.1.2.2 j = [] ∧ ∀ i, i < d.2.1 → (d.2.2.1 i).2.2 j = []) ∧ ∀ i, i < nb st 8 → (d.2.2.1 i).2.1 = [] ∧ ∃ k, k < 8 ∧ bitI st k = 1 ∧ nb st k = i ∧ ∀ j, (d.2.2.1 i).2.2 j = if j = k then oneL (ngP p 1) else []
def NowH (I : MI) (m : Nat) (st : Int) (E : Eq3) : Prop := RowH I m 218 E.1 ∧ RowH I m 219 E.2.1 ∧ ∀ j, j < 8 → bitI st j = 1 → RowH I m (220 + nb st j) (E.2.2 j)
def ThH (I : MI) (m : Nat) (st : Int) (T : Nat → Eq3) (c : Nat) : Prop := ∀ i, i < c → RowH I m (8 + 10 * i) (T i).1 ∧ (nb st 8 ≤ i → RowH I m (9 + 10 * i) (T i).2.1 ∧ ∀ j, j < 8 → bitI st j = 1 → RowH I m (10 + 10 * i + nb st j) ((T i).2.2 j))
def TldH (I : MI) (m : Nat) (c : Nat) (rows : Nat → Nat → Int) : Prop := ∀ i, i < c → ∀ j, j < 5 → I (m + 10) (5 * i + j) = rows i j
/-- a division's own cells change -/
def offW (I I' : MI) (m : Nat) : Prop := (∀ b, (b < m ∨ m + 14 < b) → I' b = I b) ∧ (I' (m + 1) = I (m + 1) ∧ I' (m + 7) = I (m + 7) ∧ I' (m + 9) = I (m + 9)) ∧ (∀ j, (j ≠ 0 ∧ j ≠ 9 ∧ (j < 20 ∨ 25 < j)) → I' m j = I m j) ∧ (∀ j, j < 8 → I' (m + 2) j = I (m + 2) j) ∧ (∀ j, j < 480 → I' (m + 3) j = I (m + 3) j) ∧ ∀ j, j < 1440 → I' (m + 4) j = I (m + 4) j
theorem offW.rf {I : MI} {m : Nat} : offW I I m := ⟨fun _ _ => rfl, ⟨rfl, rfl, rfl⟩, fun _ _ => rfl, fun _ _ => rfl, fun _ _ => rfl, fun _ _ => rfl⟩
theorem offW.tr {I I1 I2 : MI} {m : Nat} (h : offW I I1 m) (h2 : offW I1 I2 m) : offW I I2 m := ⟨fun b x => (h2.1 b x).trans (h.1 b x), ⟨h2.2.1.1.trans h.2.1.1, h2.2.1.2.1.trans h.2.1.2.1, h2.2.1.2.2.trans h.2.1.2.2⟩, fun j x => (h2.2.2.1 j x).trans (h.2.2.1 j x), fun j x => (h2.2.2.2.1 j x).trans (h.2.2.2.1 j x), fun j x => (h2.2.2.2.2.1 j x).trans (h.2.2.2.2.1 j x), fun j x => (h2.2.2.2.2.2 j x).trans (h.2.2.2.2.2 j x)⟩
theorem offH.toW {I I' : MI} {m : Nat} (h : offH I I' m) : offW I I' m := ⟨fun b hb => h.1 b (by omega) (by omega) (by omega), ⟨h.1 _ (by omega) (by omega) (by omega), h.1 _ (by omega) (by omega) (by omega), h.1 _ (by omega) (by omega) (by omega)⟩, fun j hj => h.2 j (by omega), fun j _ => by rw [h.1 _ (by omega) (by omega) (by omega)], fun j _ => by rw [h.1 _ (by omega) (by omega) (by omega)], fun j _ => by rw [h.1 _ (by omega) (by omega) (by omega)]⟩
theorem offRow.toW {I I' : MI} {m r : Nat} (h : offRow I I' m r) (hr : 8 ≤ r) : offW I I' m := ⟨fun b hb => h.1 b (by omega) (by omega) (by omega), ⟨h.1 _ (by omega) (by omega) (by omega), h.1 _ (by omega) (by omega) (by omega), h.1 _ (by omega) (by omega) (by omega)⟩, fun j _ => by rw [h.1 m (by omega) (by omega) (by omega)], fun j hj => h.2.1 j (by omega), fun j hj => h.2.2.1 j (by omega), fun j hj => h.2.2.2 j (by omega)⟩
theorem offW.u {I I' : MI} {m b k : Nat} {v : Int} (e : I' = up2 I b k v) (hb : (b = m ∧ (k = 0 ∨ k = 9 ∨ (20 ≤ k ∧ k ≤ 25))) ∨ b = m + 10) : offW I I' m := by
  have o : ∀ c, c ≠ m → c ≠ m + 10 → I' c = I c := fun c h1 h2 => u_n e (by omega)
  refine ⟨fun c hc => o c (by omega) (by omega), ⟨o _ (by omega) (by omega), o _ (by omega) (by omega), o _ (by omega) (by omega)⟩, fun j hj => ?_, fun j _ => by rw [o _ (by omega) (by omega)], fun j _ => by rw [o _ (by omega) (by omega)], fun j _ => by rw [o _ (by omega) (by omega)]⟩
  rcases hb with ⟨h1, h2⟩ | h1
  · rw [h1] at e; exact u_o e (by omega)
  · rw [u_n e (by omega)]
theorem RfW.oW {I I' : MI} {m : Nat} {n : Int} {w : Nat → Int} (h : RfW I m n w) (ho : offW I I' m) : RfW I' m n w := ⟨by rw [ho.2.2.1 1 (by omega)]; exact h.1, h.2.1, fun i hi => by rw [ho.2.1.1]; exact h.2.2.1 i hi, h.2.2.2⟩
theorem RfP.oW {I I' : MI} {m : Nat} {p : Int} (h : RfP I m p) (ho : offW I I' m) : RfP I' m p := ⟨by rw [ho.2.2.1 2 (by omega)]; exact h.1, h.2⟩
/-- rows are untouched -/
def rwS (I I' : MI) (m : Nat) : Prop := I' (m + 2) = I (m + 2) ∧ I' (m + 3) = I (m + 3) ∧ I' (m + 4) = I (m + 4)
theorem RowH.rs {I I' : MI} {m r : Nat} {L : List Tm} (h : RowH I m r L) (ho : rwS I I' m) : RowH I' m r L := by
  unfold RowH
  rw [ho.1, ho.2.1, ho.2.2]; exact h
theorem up_rs {I I' : MI} {m b k : Nat} {v : Int} (e : I' = up2 I b k v) (hb : b = m ∨ b = m + 10) : rwS I I' m := ⟨u_n e (by omega), u_n e (by omega), u_n e (by omega)⟩
theorem NowH.rs {I I' : MI} {m : Nat} {st : Int} {E : Eq3} (h : NowH I m st E) (ho : rwS I I' m) : NowH I' m st E := ⟨h.1.rs ho, h.2.1.rs ho, fun j hj hb => (h.2.2 j hj hb).rs ho⟩
theorem ThH.rs {I I' : MI} {m : Nat} {st : Int} {T : Nat → Eq3} {c : Nat} (h : ThH I m st T c) (ho : rwS I I' m) : ThH I' m st T c := fun i hi => ⟨(h i hi).1.rs ho, fun q => ⟨((h i hi).2 q).1.rs ho, fun j hj hb => (((h i hi).2 q).2 j hj hb).rs ho⟩⟩
theorem NowH.oH {I I' : MI} {m : Nat} {st : Int} {E : Eq3} (h : NowH I m st E) (ho : offH I I' m) : NowH I' m st E := ⟨h.1.oH ho, h.2.1.oH ho, fun j hj hb => (h.2.2 j hj hb).oH ho⟩
theorem ThH.oH {I I' : MI} {m : Nat} {st : Int} {T : Nat → Eq3} {c : Nat} (h : ThH I m st T c) (ho : offH I I' m) : ThH I' m st T c := fun i hi => ⟨(h i hi).1.oH ho, fun q => ⟨((h i hi).2 q).1.oH ho, fun j hj hb => (((h i hi).2 q).2 j hj hb).oH ho⟩⟩
section RDV
variable {G : Gl} {S : Sh} {R : MR} {m : Nat} {n : Int} {p : Int} {w : Nat → Int} {st : Int}
theorem NowH.oR {I I' : MI} {r : Nat} {E : Eq3} (h : NowH I m st E) (hE : okE3 p n w E) (ho : offRow I I' m r) (hr : r < 218 ∨ 230 ≤ r) : NowH I' m st E :=
  ⟨h.1.oR hE.1.2.2 ho (by omega), h.2.1.oR hE.2.1.2.2 ho (by omega), fun j hj hb => (h.2.2 j hj hb).oR (hE.2.2 j hj).2.2 ho (by have := nbb_le st j; omega)⟩
theorem ThH.oR {I I' : MI} {r : Nat} {T : Nat → Eq3} {c : Nat} (h : ThH I m st T c) (hT : ∀ i, i < c → okE3 p n w (T i)) (ho : offRow I I' m r) (hr : 8 + 10 * c ≤ r) : ThH I' m st T c := fun i hi =>
  ⟨(h i hi).1.oR (hT i hi).1.2.2 ho (by omega), fun q => ⟨((h i hi).2 q).1.oR (hT i hi).2.1.2.2 ho (by omega), fun j hj hb => (((h i hi).2 q).2 j hj hb).oR ((hT i hi).2.2 j hj).2.2 ho (by have := nbb_le st j; omega)⟩⟩
theorem TldH.o {I I' : MI} {c : Nat} {rows : Nat → Nat → Int} (h : TldH I m c rows) (ho : I' (m + 10) = I (m + 10)) : TldH I' m c rows := fun i hi j hj => by rw [ho]; exact h i hi j hj
theorem v10row {a c : Nat} (ha : a ≤ 21) (hc : c ≤ 10) : vX10_rowOf m (a : Int) (c : Int) = ((8 + 10 * a + c : Nat) : Int) := by
  unfold vX10_rowOf
  rw [w32_id (x := 10 * (a : Int)) (by omega), w32_id (x := 8 + 10 * (a : Int)) (by omega), w32_id (by omega)]; omega
theorem okK.k {a : Int} (h : okK n w a) : kOK n w a := ⟨h.2.2.1, h.2.2.2⟩
theorem dvk {a c : Int} (ha : okK n w a) (hc : okK n w c) (hd : dvs c a) : VK n w (a - c + 262143) 33 ∧ exx (a - c + 262143) = exx a - exx c ∧ exy (a - c + 262143) = exy a - exy c ∧ exz (a - c + 262143) = exz a - exz c := by
  have ra := ha.r
  have rc := hc.r
  unfold dvs at hd
  have e := key_sub (w := w) (x := exx a) (y := exy a) (z := exz a) (a := exx c) (b := exy c) (c := exz c)
  rw [← key_gk ha.2.2.1, ← key_gk hc.2.2.1] at e
  rw [e]
  have hx : exx (key w (exx a - exx c) (exy a - exy c) (exz a - exz c)) = exx a - exx c := exx_pk (by omega) (by omega) (by omega)
  have hy : exy (key w (exx a - exx c) (exy a - exy c) (exz a - exz c)) = exy a - exy c := exy_pk (by omega) (by omega) (by omega)
  have hz : exz (key w (exx a - exx c) (exy a - exy c) (exz a - exz c)) = exz a - exz c := exz_pk (by omega) (by omega) (by omega)
  have va := ha.2.2.2
  have vc := hc.2.2.2
  unfold inV at va vc
  refine ⟨⟨gk_key (by omega) (by omega) (by omega), ⟨fun q => by rw [hy]; omega, fun q => by rw [hz]; omega⟩, by omega, by omega, by omega⟩, hx, hy, hz⟩
theorem hd_get {L : List Tm} (h : L ≠ []) : L[0]? = some (hdM L, hdN L) := by
  cases L with
  | nil => exact absurd rfl h
  | cons t L => rfl
theorem RowH.pow0 (h : RfS S R m) {I : MI} {r : Nat} {L : List Tm} (hr : r < 300) (hL : RowH I m r L) (h0 : L ≠ []) : vX10_power I R m (r : Int) 0 0 = exx (hdM L) ∧ vX10_power I R m (r : Int) 0 1 = exy (hdM L) ∧ vX10_power I R m (r : Int) 0 2 = exz (hdM L) := by
  have t := hL.2 0 _ (hd_get h0)
  have e0 := v10pow (I := I) (r := r) (j := 0) (v := 0) h hr (by omega) (by omega)
  have e1 := v10pow (I := I) (r := r) (j := 0) (v := 1) h hr (by omega) (by omega)
  have e2 := v10pow (I := I) (r := r) (j := 0) (v := 2) h hr (by omega) (by omega)
  exact ⟨e0.trans t.2.1, e1.trans t.2.2.1, e2.trans t.2.2.2⟩
theorem p10pow0 (h : RfS S R m) {r : Nat} (hr : r < 300) : pX10_power S R m (r : Int) 0 0 ∧ pX10_power S R m (r : Int) 0 1 ∧ pX10_power S R m (r : Int) 0 2 :=
  ⟨p10pow (r := r) (j := 0) (v := 0) h hr (by omega) (by omega), p10pow (r := r) (j := 0) (v := 1) h hr (by omega) (by omega), p10pow (r := r) (j := 0) (v := 2) h hr (by omega) (by omega)⟩
theorem divides_spec {I : MI} {Q : Sh → MI → MR → Int → Prop} {a c : Nat} {A C : List Tm} (h : RfS S R m) (hA : RowH I m a A) (hC : RowH I m c C) (ha : a < 300) (hc : c < 300) (hA0 : A ≠ []) (hC0 : C ≠ []) (h1 : dvs (hdM A) (hdM C) → Q S I R 1) (h0 : ¬ dvs (hdM A) (hdM C) → Q S I R 0) : CI G MX10_divides [vR m, vI (a : Int), vI (c : Int)] S I R Q := by
  have pa := hA.pow0 h ha hA0
  have pc := hC.pow0 h hc hC0
  have qa := p10pow0 (S := S) (R := R) (m := m) h ha
  have qc := p10pow0 (S := S) (R := R) (m := m) h hc
  refine bX10_divides (bX10_divides_2 (br_f (by decide) ⟨h.1, qa.1, qc.1, fun x0 => bX10_divides_2 (br_f (by decide) ⟨h.1, qa.2.1, qc.2.1, fun x1 => bX10_divides_2 (br_f (by decide) ⟨h.1, qa.2.2, qc.2.2, fun x2 => bX10_divides_2 (br_t (by decide) (h1 ?_)), fun x2 => h0 (fun z => x2 ?_)⟩), fun x1 => h0 (fun z => x1 ?_)⟩), fun x0 => h0 (fun z => x0 ?_)⟩))
  · rw [pa.1, pc.1] at x0
    have x1' : vX10_power I R m (a : Int) 0 1 ≤ vX10_power I R m (c : Int) 0 1 := x1
    have x2' : vX10_power I R m (a : Int) 0 2 ≤ vX10_power I R m (c : Int) 0 2 := x2
    rw [pa.2.1, pc.2.1] at x1'
    rw [pa.2.2, pc.2.2] at x2'
    exact ⟨x0, x1', x2'⟩
  · show vX10_power I R m (a : Int) 0 2 ≤ vX10_power I R m (c : Int) 0 2
    rw [pa.2.2, pc.2.2]; exact z.2.2
  · show vX10_power I R m (a : Int) 0 1 ≤ vX10_power I R m (c : Int) 0 1
    rw [pa.2.1, pc.2.1]; exact z.2.1
  · rw [pa.1, pc.1]; exact z.1
theorem dividing_spec {I : MI} {Q : Sh → MI → MR → Int → Prop} {T : Nat → Eq3} {c : Nat} {H : List Tm} (h : RfS S R m) (hw : RfW I m n w) (hT : ThH I m st T c) (oT : ∀ i, i < c → okE3 p n w (T i)) (nT : ∀ i, i < c → (T i).1 ≠ []) (hc : c ≤ 20) (h24 : I m 24 = (c : Int)) (hH : RowH I m 218 H) (hH0 : H ≠ []) (hq : Q S I R (bst T H c).1) : CI G MX10_dividing [vR m, vI ((218 : Nat) : Int)] S I R Q := by
  have loop : ∀ (q k : Nat), c - k = q → k ≤ c → LX10_dividing_4 G m ((218 : Nat) : Int) (bst T H k).1 (k : Int) S I R Q := by
    intro q
    induction q with
    | zero =>
      intro k hq1 hk
      refine bX10_dividing_4 ⟨h.1, ?_⟩
      rw [h24, show k = c by omega]
      exact br_t (by omega) hq
    | succ q ih =>
      intro k hq1 hk
      have hkc : k < c := by omega
      have nx := ih (k + 1) (by omega) (by omega)
      rw [bst] at nx
      have r0 := v10row (m := m) (a := k) (c := 0) (by omega) (by omega)
      have r0' : vX10_rowOf m (k : Int) 0 = ((8 + 10 * k : Nat) : Int) := r0
      refine bX10_dividing_4 ⟨h.1, ?_⟩
      rw [h24, r0', add1 (by omega)]
      have ek := v10ec h hw (show 8 + 10 * k < 300 by omega) (oT k hkc).1.toR (hT k hkc).1 (nT k hkc)
      refine br_f (by omega) (divides_spec h (hT k hkc).1 hH (by omega) (by omega) (nT k hkc) hH0 (fun d => br_f (by decide) ?_) (fun d => br_t rfl ?_))
      · rcases bst_r (T := T) (h := H) k with e | ⟨i, hi, e1, e2, e3, e4⟩
        · rw [if_pos ⟨nT k hkc, d, Or.inl e⟩] at nx
          exact br_t e nx
        · have ri := v10row (m := m) (a := i) (c := 0) (by omega) (by omega)
          have ri' : vX10_rowOf m (i : Int) 0 = ((8 + 10 * i : Nat) : Int) := ri
          have ei := v10ec h hw (show 8 + 10 * i < 300 by omega) (oT i (by omega)).1.toR (hT i (by omega)).1 (nT i (by omega))
          rw [e1]
          rw [ri']
          refine br_f (by omega) ⟨h.1, ek.1, ei.1, ?_⟩
          rw [ek.2, ei.2]
          refine ⟨fun z => ?_, fun z => ?_⟩
          · rw [if_neg (fun y => by
              rcases y.2.2 with q2 | q2
              · rw [e1] at q2; omega
              · rw [e4] at q2; omega)] at nx
            rw [e1] at nx; exact nx
          · rw [if_pos ⟨nT k hkc, d, Or.inr (by rw [e4]; omega)⟩] at nx
            exact nx
      · rw [if_neg (fun y => d y.2.1)] at nx
        exact nx
  exact bX10_dividing (loop c 0 (by omega) (by omega))
/-- a row less by times a monomial times a row: into WORK -/
theorem lessens_spec {I : MI} {Q : Sh → MI → MR → Int → Prop} {a c t : Nat} {A C Hh T : List Tm} {by_ : Int} (h : RfS S R m) (hw : RfW I m n w) (hp : RfP I m p) (hA : RowH I m a A) (hC : RowH I m c C) (hHh : RowH I m 292 Hh) (hT : RowH I m t T) (ha : a < 290) (hc : c < 290) (ht : t < 290) (oA : okQ p n w A) (oC : okQ p n w C) (oH : okQ p n w Hh) (oT : okQ p n w T) (h0 : Hh ≠ []) (t0 : T ≠ []) (hd : dvs (hdM T) (hdM Hh)) (hby : 0 < by_ ∧ by_ < p)
    (hT2 : ∀ I', fits 60 (mg p (p - by_) (hdM Hh - hdM T) A C) → (∃ I1, offH I I1 m ∧ offRow I1 I' m 290) → RowH I' m 290 (mg p (p - by_) (hdM Hh - hdM T) A C) → Q S I' R 1)
    (hF2 : ∀ I', ¬ fits 60 (mg p (p - by_) (hdM Hh - hdM T) A C) → offH I I' m → Q S I' R 0) : CI G MX10_lessens [vR m, vI (a : Int), vI (c : Int), vI by_, vI 292, vI (t : Int)] S I R Q := by
  have kH := (hd_ok oH h0).1
  have kT := (hd_ok oT t0).1
  have dk := dvk kH kT hd
  have hp2 := hp.2
  have rH := kH.r
  have rT := kT.r
  refine bX10_lessens ⟨h.1, fun I2 e2 => ?_⟩
  have o2 : offH I I2 m := offH.u e2 (Or.inr (Or.inr ⟨rfl, rfl⟩))
  refine heaps1_spec h (hw.oH o2) (hp.oH o2) (u_s e2) (hA.oH o2) (by omega) oA.toR (red0_of oA.1.2) (fun I3 o3 g3 _ => ⟨h.1, ?_⟩)
  have o23 := o2.tr o3
  have q1 := p10pow0 (S := S) (R := R) (m := m) (r := 292) h (by omega)
  have q2 := p10pow0 (S := S) (R := R) (m := m) (r := t) h (by omega)
  have p1 := (hHh.oH o23).pow0 h (show 292 < 300 by omega) h0
  have p2 := (hT.oH o23).pow0 h (show t < 300 by omega) t0
  refine ⟨q1.1, q2.1, q1.2.1, q2.2.1, q1.2.2, q2.2.2, ?_⟩
  have p1' : vX10_power I3 R m 292 0 0 = exx (hdM Hh) ∧ vX10_power I3 R m 292 0 1 = exy (hdM Hh) ∧ vX10_power I3 R m 292 0 2 = exz (hdM Hh) := p1
  have hp3 := hp.oH o23
  unfold dvs at hd
  rw [p1'.1, p1'.2.1, p1'.2.2, p2.1, p2.2.1, p2.2.2, hp3.1, w32_id (x := p - by_) (by omega), w32_id (x := exx (hdM Hh) - exx (hdM T)) (by omega), w32_id (x := exy (hdM Hh) - exy (hdM T)) (by omega), w32_id (x := exz (hdM Hh) - exz (hdM T)) (by omega), ← dk.2.1, ← dk.2.2.1, ← dk.2.2.2]
  refine heaps2_spec h (hw.oH o23) hp3 g3 oA.1 oA.toR (hC.oH o23) (by omega) oC.toR oC.1 ⟨by omega, by omega⟩ dk.1 (fun I4 H' o4 g4 l4 z4 => ⟨h.1, ?_⟩)
  rw [show hdM Hh - hdM T + 262143 - 262143 = hdM Hh - hdM T by omega] at z4
  refine takes_spec (r := 290) h g4 (by omega) l4 (fun I5 ft o5 h5 => ⟨Or.inr rfl, ?_⟩) (fun nf => ⟨Or.inl rfl, ?_⟩)
  · rw [z4] at ft h5
    exact hT2 I5 ft ⟨I4, o23.tr o4, o5⟩ h5
  · rw [z4] at nf
    exact hF2 I4 nf (o23.tr o4)
end RDV
