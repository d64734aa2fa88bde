/-! ===== X10: show ===== -/
def showA (s : Ms) (x1 x : Int) (s' : Ms) : Prop := (slt x1 → x = ((shwL (s.f x1.toNat)).length : Int) ∧ s' = (s.1, s.2.1, s.2.2.1, s.2.2.2.1, shwL (s.f x1.toNat), s.2.2.2.2.2)) ∧ (¬ slt x1 → x = -1 ∧ s' = s)
theorem shwL_len {L : List Tm} (h : L.length ≤ 60) : (shwL L).length ≤ 1080 := by
  unfold shwL
  by_cases c : L = []
  · rw [if_pos c]; exact Nat.le_of_ble_eq_true rfl
  · rw [if_neg c]
    have := shwR_len L 0
    omega
theorem decA_div (v s : Int) (hs : s = 1 ∨ s = 10 ∨ s = 100 ∨ s = 1000) : decA v (s * 10) = decA (v / 10) s := by
  unfold decA
  rcases hs with rfl | rfl | rfl | rfl
  · by_cases c : v < 10
    · rw [if_pos (by omega), if_pos (by omega)]
    · rw [if_neg (by omega), if_neg (by omega)]; congr 1; omega
  · by_cases c : v < 100
    · rw [if_pos (by omega), if_pos (by omega)]
    · rw [if_neg (by omega), if_neg (by omega)]; congr 1; omega
  · by_cases c : v < 1000
    · rw [if_pos (by omega), if_pos (by omega)]
    · rw [if_neg (by omega), if_neg (by omega)]; congr 1; omega
  · by_cases c : v < 10000
    · rw [if_pos (by omega), if_pos (by omega)]
    · rw [if_neg (by omega), if_neg (by omega)]; congr 1; omega
theorem dec_small {v : Int} (h : 1 ≤ v ∧ v ≤ 9) : dec v = [48 + v % 10] := by
  unfold dec
  rw [decA_none (s := 10000) (by omega), decA_none (s := 1000) (by omega), decA_none (s := 100) (by omega), decA_none (s := 10) (by omega)]
  unfold decA
  rw [if_neg (by omega), Int.ediv_one]; rfl
theorem dec_big {v : Int} (h : 10 ≤ v ∧ v < 100000) : dec v = dec (v / 10) ++ [48 + v % 10] := by
  have e1 : decA v 10 = decA (v / 10) 1 := decA_div v 1 (Or.inl rfl)
  have e2 : decA v 100 = decA (v / 10) 10 := decA_div v 10 (Or.inr (Or.inl rfl))
  have e3 : decA v 1000 = decA (v / 10) 100 := decA_div v 100 (Or.inr (Or.inr (Or.inl rfl)))
  have e4 : decA v 10000 = decA (v / 10) 1000 := decA_div v 1000 (Or.inr (Or.inr (Or.inr rfl)))
  have e0 : decA v 1 = [48 + v % 10] := by unfold decA; rw [if_neg (by omega), Int.ediv_one]
  have e5 : decA (v / 10) 10000 = [] := decA_none (by omega)
  unfold dec
  rw [e0, e1, e2, e3, e4, e5, List.nil_append, List.append_assoc, List.append_assoc, List.append_assoc]
theorem shwR_snoc (t : Tm) : ∀ (L : List Tm) (i : Nat), shwR i (L ++ [t]) = shwR i L ++ ((if i + L.length = 0 then [] else [43]) ++ trmL t)
  | [], i => by
    show (if i = 0 then [] else [43]) ++ (trmL t ++ []) = [] ++ _
    rw [List.append_nil, List.nil_append]; rfl
  | a :: L, i => by
    show (if i = 0 then [] else [43]) ++ (trmL a ++ shwR (i + 1) (L ++ [t])) = ((if i = 0 then [] else [43]) ++ (trmL a ++ shwR (i + 1) L)) ++ _
    rw [shwR_snoc t L (i + 1), List.length_cons, show i + 1 + L.length = i + (L.length + 1) by omega, List.append_assoc, List.append_assoc]
def OutH (I : MI) (m : Nat) (L : List Int) : Prop := I m 19 = (L.length : Int) ∧ Arr I (m + 9) L
def offO (I I' : MI) (m : Nat) : Prop := (∀ b, b ≠ m → b ≠ m + 9 → I' b = I b) ∧ ∀ j, j ≠ 19 → I' m j = I m j
theorem offO.rf {I : MI} {m : Nat} : offO I I m := ⟨fun _ _ _ => rfl, fun _ _ => rfl⟩
theorem offO.tr {I I1 I2 : MI} {m : Nat} (h : offO I I1 m) (h2 : offO I1 I2 m) : offO I I2 m := ⟨fun b x y => (h2.1 b x y).trans (h.1 b x y), fun j x => (h2.2 j x).trans (h.2 j x)⟩
theorem RowH.oO {I I' : MI} {m r : Nat} {L : List Tm} (h : RowH I m r L) (ho : offO I I' m) : RowH I' m r L := by
  unfold RowH
  rw [ho.1 (m + 2) (by omega) (by omega), ho.1 (m + 3) (by omega) (by omega), ho.1 (m + 4) (by omega) (by omega)]; exact h
theorem RfW.oO {I I' : MI} {m : Nat} {n : Int} {w : Nat → Int} (h : RfW I m n w) (ho : offO I I' m) : RfW I' m n w := ⟨by rw [ho.2 1 (by omega)]; exact h.1, h.2.1, fun i hi => by rw [ho.1 (m + 1) (by omega) (by omega)]; exact h.2.2.1 i hi, h.2.2.2⟩
section RSH
variable {G : Gl} {S : Sh} {R : MR} {m : Nat} {n : Int} {w : Nat → Int} {Q : Sh → MI → MR → Prop}
theorem says_spec {I : MI} {L : List Int} {c : Int} (h : RfS S R m) (hL : OutH I m L) (hl : L.length < 2000) (hq : ∀ I', offO I I' m → OutH I' m (L ++ [c]) → Q S I' R) : CV G MX10_says [vR m, vI c] S I R Q := by
  refine bX10_says ⟨h.1, ?_⟩
  rw [h.2.1.2.2.1.1, h.2.2.1.2.2.1.1, h.2.2.2.2.2.1.1, hL.1]
  refine ⟨rfl, ⟨by omega, by omega⟩, fun I1 e1 => fun I2 e2 => ?_⟩
  have k : I1 m 19 = (L.length : Int) := by rw [u_n e1 (by omega)]; exact hL.1
  rw [k, add1 (by omega)] at e2
  rw [show Int.toNat (L.length : Int) = L.length by omega] at e1
  refine hq I2 ⟨fun b b1 b2 => by rw [u_n e2 b1, u_n e1 b2], fun j hj => by rw [u_o e2 hj, u_n e1 (by omega)]⟩ ⟨by rw [u_s e2, List.length_append, List.length_singleton], hL.2.snoc ?_ (fun j hj => ?_)⟩
  · rw [u_n e2 (by omega), u_s e1]
  · rw [u_n e2 (by omega), u_o e1 (by omega)]
theorem saysNumber_spec (h : RfS S R m) : ∀ (k : Nat) {I : MI} {L : List Int} {v : Int} {Q : Sh → MI → MR → Prop}, k ≤ 6 → 1 ≤ v → v < ((10 ^ k : Nat) : Int) → v < 100000 → OutH I m L → (L ++ dec v).length ≤ 1500 → (∀ I', offO I I' m → OutH I' m (L ++ dec v) → Q S I' R) → CV G (MX10_saysNumber k) [vR m, vI v] S I R Q
  | 0, I, L, v, Q, _, h1, h2, _, _, _, _ => by
    have : ((10 ^ 0 : Nat) : Int) = 1 := rfl
    omega
  | k + 1, I, L, v, Q, hk, h1, h2, h3, hL, hl, hq => by
    refine bX10_saysNumber ⟨fun c => ⟨h.1, ?_⟩, fun c => ⟨h.1, ?_⟩⟩
    · rw [dec_small ⟨h1, c⟩] at hq hl
      rw [List.length_append, List.length_singleton] at hl
      rw [irem_eq (by omega) (by omega) (by omega) (by omega), w32_id (by omega)]
      exact says_spec h hL (by omega) (fun I' o g => hq I' o g)
    · rw [dec_big ⟨by omega, h3⟩] at hq hl
      rw [← List.append_assoc, List.length_append, List.length_singleton] at hl
      rw [idiv_eq (by omega) (by omega) (by omega) (by omega), irem_eq (by omega) (by omega) (by omega) (by omega), w32_id (by omega)]
      refine saysNumber_spec h k (by omega) (by omega) ?_ (by omega) hL (by omega) (fun I1 o1 g1 => ⟨h.1, says_spec h g1 (by omega) (fun I2 o2 g2 => hq I2 (o1.tr o2) (by rw [← List.append_assoc]; exact g2))⟩)
      rw [Nat.pow_succ] at h2
      omega
theorem p6 {v : Int} (h : v < 100000) : v < ((10 ^ 6 : Nat) : Int) := by
  have : ((10 ^ 6 : Nat) : Int) = 1000000 := rfl
  omega
theorem plain_iff {k : Int} (hw : wtOK w) (hk : kOK n w k) : dg k = 0 ↔ k = 262143 := by
  have e := dg_kOK hk
  have r := ex_r k
  have m0 := mul4 (x := exx k) (by omega) (hw 0 (by omega))
  have m1 := mul4 (x := exy k) (by omega) (hw 1 (by omega))
  have m2 := mul4 (x := exz k) (by omega) (hw 2 (by omega))
  have g0 : exx k ≤ exx k * w 0 := by have := Int.mul_le_mul_of_nonneg_left (hw 0 (by omega)).1 (show 0 ≤ exx k by omega); omega
  have g1 : exy k ≤ exy k * w 1 := by have := Int.mul_le_mul_of_nonneg_left (hw 1 (by omega)).1 (show 0 ≤ exy k by omega); omega
  have g2 : exz k ≤ exz k * w 2 := by have := Int.mul_le_mul_of_nonneg_left (hw 2 (by omega)).1 (show 0 ≤ exz k by omega); omega
  constructor
  · intro z
    have ek := key_gk hk.1
    rw [show exx k = 0 by omega, show exy k = 0 by omega, show exz k = 0 by omega] at ek
    rw [ek]; unfold key pk; omega
  · intro z; rw [z]; decide
theorem saysTerm_spec {I : MI} {O : List Int} {L : List Tm} {r j : Nat} {p : Int} (h : RfS S R m) (hw : RfW I m n w) (hr : r < 300) (ok : okR n w L) (hred : Red p L) (hp : p ≤ 32749) (hL : RowH I m r L) (hO : OutH I m O) (hj : j < L.length) (hl : (O ++ trmL L[j]).length ≤ 1500) (hq : ∀ I', offO I I' m → OutH I' m (O ++ trmL L[j]) → Q S I' R) : CV G MX10_saysTerm [vR m, vI (r : Int), vI (j : Int)] S I R Q := by
  have hj60 : j < 60 := by have := ok.2; omega
  have kk := (ok.1 L[j] (List.getElem_mem hj)).1
  have nh : ¬ hi L[j].1 := (ok.1 L[j] (List.getElem_mem hj)).2
  have rd := hred L[j] (List.getElem_mem hj)
  have re := ex_r L[j].1
  have dd := v10degree h hw hr ok hL hj
  have pi := plain_iff hw.2.2.2 kk
  have pwr := fun (v : Nat) => if v = 0 then exx L[j].1 else if v = 1 then exy L[j].1 else exz L[j].1
  have hpw : ∀ (J : MI), offO I J m → vX10_power J R m (r : Int) (j : Int) 0 = exx L[j].1 ∧ vX10_power J R m (r : Int) (j : Int) 1 = exy L[j].1 ∧ vX10_power J R m (r : Int) (j : Int) 2 = exz L[j].1 := fun J o => (hL.oO o).pow h hr ok.2 hj
  -- one power
  have power : ∀ (v : Nat) (e : Int) (J : MI) (O1 : List Int), v < 3 → 0 ≤ e → e < 64 → (∀ J2, offO I J2 m → vX10_power J2 R m (r : Int) (j : Int) (v : Int) = e) → offO I J m → OutH J m O1 → (O1 ++ powL (v : Int) e).length ≤ 1500 → (∀ J2, offO I J2 m → OutH J2 m (O1 ++ powL (v : Int) e) → LX10_saysTerm_52 G m (r : Int) (j : Int) ((v + 1 : Nat) : Int) S J2 R Q) → LX10_saysTerm_52 G m (r : Int) (j : Int) (v : Int) S J R Q := by
    intro v e J O1 hv he0 he1 hpv oJ hO1 hl1 hout
    refine bX10_saysTerm_52 (br_f (by omega) ⟨h.1, p10pow h hr hj60 hv, ?_⟩)
    rw [hpv J oJ, add1 (n := v) (by omega), w32_id (x := 120 + (v : Int)) (by omega)]
    unfold powL at hl1 hout
    refine ⟨fun c => ?_, fun c => ?_⟩
    · rw [if_neg (show ¬ e ≤ 0 by omega)] at hl1 hout
      rw [List.length_append, List.length_cons] at hl1
      refine says_spec h hO1 (by omega) (fun J2 o2 g2 => ⟨h.1, p10pow h hr hj60 hv, ?_⟩)
      have oJ2 := oJ.tr o2
      rw [hpv J2 oJ2]
      refine ⟨fun c1 => ?_, fun c1 => ?_⟩
      · rw [if_neg (show ¬ e ≤ 1 by omega)] at hl1 hout
        rw [List.length_cons] at hl1
        refine says_spec h g2 (by rw [List.length_append, List.length_singleton]; omega) (fun J3 o3 g3 => ⟨h.1, p10pow h hr hj60 hv, ?_⟩)
        have oJ3 := oJ2.tr o3
        rw [hpv J3 oJ3]
        refine saysNumber_spec h 6 (by omega) (by omega) (p6 (by omega)) (by omega) g3 (by rw [List.length_append, List.length_append, List.length_append, List.length_singleton, List.length_singleton]; omega) (fun J4 o4 g4 => hout J4 (oJ3.tr o4) ?_)
        rw [List.append_assoc, List.append_assoc] at g4
        exact g4
      · rw [if_pos (show e ≤ 1 by omega)] at hout
        exact hout J2 oJ2 g2
    · rw [if_pos (show e ≤ 0 by omega), List.append_nil] at hout
      exact hout J oJ hO1
  have t := hL.2 j L[j] (List.getElem?_eq_getElem hj)
  have lp0 := powL_len (v := 0) (e := exx L[j].1) (by omega)
  have lp1 := powL_len (v := 1) (e := exy L[j].1) (by omega)
  have lp2 := powL_len (v := 2) (e := exz L[j].1) (by omega)
  unfold trmL at hl hq
  have tail : ∀ (J : MI) (O1 : List Int), offO I J m → OutH J m O1 → (O1 ++ (powL 0 (exx L[j].1) ++ (powL 1 (exy L[j].1) ++ powL 2 (exz L[j].1)))).length ≤ 1500 → (∀ J2, offO I J2 m → OutH J2 m (O1 ++ (powL 0 (exx L[j].1) ++ (powL 1 (exy L[j].1) ++ powL 2 (exz L[j].1)))) → Q S J2 R) → LX10_saysTerm_52 G m (r : Int) (j : Int) 0 S J R Q := by
    intro J O1 oJ hO1 hl1 hout
    rw [List.length_append, List.length_append, List.length_append] at hl1
    refine power 0 (exx L[j].1) J O1 (by omega) (by omega) (by omega) (fun J2 o => (hpw J2 o).1) oJ hO1 (by rw [List.length_append]; exact (by omega : O1.length + (powL 0 (exx L[j].1)).length ≤ 1500)) (fun J2 o2 g2 => ?_)
    refine power 1 (exy L[j].1) J2 _ (by omega) (by omega) (by omega) (fun J2 o => (hpw J2 o).2.1) o2 g2 (by rw [List.length_append, List.length_append]; exact (by omega : O1.length + (powL 0 (exx L[j].1)).length + (powL 1 (exy L[j].1)).length ≤ 1500)) (fun J3 o3 g3 => ?_)
    refine power 2 (exz L[j].1) J3 _ (by omega) (by omega) (by omega) (fun J2 o => (hpw J2 o).2.2) o3 g3 (by rw [List.length_append, List.length_append, List.length_append]; exact (by omega : O1.length + (powL 0 (exx L[j].1)).length + (powL 1 (exy L[j].1)).length + (powL 2 (exz L[j].1)).length ≤ 1500)) (fun J4 o4 g4 => bX10_saysTerm_52 (br_t (by omega) (hout J4 o4 ?_)))
    rw [List.append_assoc, List.append_assoc] at g4
    exact g4
  have num : ¬ (L[j].2 = 1 ∧ L[j].1 ≠ 262143) → LX10_saysTerm_34 G m (r : Int) (j : Int) S I R Q := by
    intro hc
    rw [if_neg hc] at hl hq
    refine bX10_saysTerm_34 ⟨h.1, ?_⟩
    rw [h.2.1.1.2.2.1, h.2.2.1.1.2.2.1, h.2.2.2.1.2.2.1, v10at hr hj60, show Int.toNat ((60 * r + j : Nat) : Int) = 60 * r + j by omega, t.1]
    have hl2 := hl
    rw [List.length_append, List.length_append] at hl2
    refine ⟨rfl, ⟨by omega, by omega⟩, saysNumber_spec h 6 (by omega) (by omega) (p6 (by omega)) (by omega) hO (by rw [List.length_append]; omega) (fun J o g => tail J _ o g (by rw [List.append_assoc]; exact hl) (fun J2 o2 g2 => hq J2 o2 (by rw [← List.append_assoc]; exact g2)))⟩
  have no : L[j].2 = 1 ∧ L[j].1 ≠ 262143 → LX10_saysTerm_52 G m (r : Int) (j : Int) 0 S I R Q := by
    intro hc
    rw [if_pos hc, List.nil_append] at hl hq
    exact tail I O offO.rf hO hl hq
  have s14 : ∀ y : Int, (y = 0 ↔ L[j].1 ≠ 262143) → LX10_saysTerm_14 G m (r : Int) (j : Int) y S I R Q := by
    intro y hy
    refine bX10_saysTerm_14 ⟨h.1, ?_⟩
    rw [h.2.1.1.2.2.1, h.2.2.1.1.2.2.1, h.2.2.2.1.2.2.1, v10at hr hj60, show Int.toNat ((60 * r + j : Nat) : Int) = 60 * r + j by omega, t.1]
    refine ⟨rfl, ⟨by omega, by omega⟩, fun c => num (fun z => c z.1), fun c => ⟨fun y0 => no ⟨Decidable.not_not.mp c, hy.mp y0⟩, fun y0 => num (fun z => y0 (hy.mpr z.2))⟩⟩
  refine bX10_saysTerm ⟨h.1, p10degree h hr hj60, ?_⟩
  rw [dd]
  refine ⟨fun c => s14 0 ⟨fun _ z => c (pi.mpr z), fun _ => rfl⟩, fun c => s14 1 ⟨fun z => absurd z (by decide), fun z => absurd (pi.mp (Decidable.not_not.mp c)) z⟩⟩
theorem ref_show {s : Ms} {I : MI} {Q : Sh → MI → MR → Int → Prop} (h : RfS S R m) (hs : MsOK s) (hv : RefV I m s) {x1 : Int} (r1 : InR x1) (hq : ∀ I' x s', offX I I' m (m + 14) → RefV I' m s' → showA s x1 x s' → Q S I' R x) : CI G MX10_show [vR m, vI x1] S I R Q := by
  refine bX10_show ⟨h.1, fun I2 e2 => ⟨p10slot h r1, ?_⟩⟩
  have o2 : offS I I2 m := offS.u e2 (Or.inl rfl)
  have hv2 := hv.oS hs o2
  have v1 := v10slot (m := m) r1
  refine ⟨fun c => fun I3 e3 => ?_, fun c => hq I2 _ s o2.X hv2 ⟨fun z => absurd (v1.mpr z) c, fun _ => ⟨rfl, rfl⟩⟩⟩
  have h1 := v1.mp c
  have ea : x1 = ((x1.toNat : Nat) : Int) := by omega
  have okf := hs.2.2.2.1 x1.toNat (by omega)
  have l60 := okf.2.2
  have oO3 : offO I2 I3 m := ⟨fun b b1 _ => u_n e3 b1, fun j hj => u_o e3 hj⟩
  have hL3 := (hv2.2.2.1 x1.toNat (by omega)).oO oO3
  have hO3 : OutH I3 m [] := ⟨u_s e3, fun i x hx => by cases hx⟩
  have fin : ∀ (J : MI), offO I2 J m → OutH J m (shwL (s.f x1.toNat)) → Q S J R ((shwL (s.f x1.toNat)).length : Int) := by
    intro J oJ hJ
    refine hq J _ _ (o2.X.tr (fun b hb => oJ.1 b (by omega) (by omega))) ?_ ⟨fun _ => ⟨rfl, rfl⟩, fun z => absurd h1 z⟩
    exact hv2.re hs (oJ.1 _ (by omega) (by omega)) (oJ.1 _ (by omega) (by omega)) (oJ.1 _ (by omega) (by omega)) (oJ.1 _ (by omega) (by omega)) (oJ.1 _ (by omega) (by omega)) (oJ.2 1 (by omega)) (oJ.2 2 (by omega)) (fun j g1 g2 => oJ.2 j (by omega)) ⟨by rw [oJ.2 11 (by omega)]; exact hv2.2.2.2.1.1, fun i hi => by rw [oJ.1 _ (by omega) (by omega)]; exact hv2.2.2.2.1.2 i hi⟩ (by rw [oJ.2 14 (by omega), oJ.2 15 (by omega)]; exact hv2.2.2.2.2.1) hJ
  rw [h.2.1.1.2.1, h.2.2.1.1.2.1, h.2.2.2.1.2.1, show Int.toNat x1 = x1.toNat from rfl, hL3.1]
  have loop : (s.f x1.toNat) ≠ [] → ∀ (q j : Nat) (J : MI), (s.f x1.toNat).length - j = q → j ≤ (s.f x1.toNat).length → offO I2 J m → OutH J m (shwR 0 ((s.f x1.toNat).take j)) → LX10_show_37 G m ((x1.toNat : Nat) : Int) (j : Int) S J R Q := by
    intro hne q
    induction q with
    | zero =>
      intro j J hq1 hj oJ hJ
      have hLJ := (hv2.2.2.1 x1.toNat (by omega)).oO oJ
      refine bX10_show_37 ⟨h.1, ?_⟩
      rw [h.2.1.1.2.1, h.2.2.1.1.2.1, h.2.2.2.1.2.1, show Int.toNat ((x1.toNat : Nat) : Int) = x1.toNat by omega, hLJ.1]
      rw [List.take_of_length_le (by omega)] at hJ
      have eL : shwL (s.f x1.toNat) = shwR 0 (s.f x1.toNat) := if_neg hne
      refine ⟨rfl, ⟨by omega, by omega⟩, br_t (by omega) ?_⟩
      rw [hJ.1, ← eL]
      exact fin J oJ (by rw [eL]; exact hJ)
    | succ q ih =>
      intro j J hq1 hj oJ hJ
      have hjl : j < (s.f x1.toNat).length := by omega
      have hLJ := (hv2.2.2.1 x1.toNat (by omega)).oO oJ
      have sn := shwR_snoc (s.f x1.toNat)[j] ((s.f x1.toNat).take j) 0
      rw [← take_succ_get hjl, List.length_take, show 0 + min j (s.f x1.toNat).length = j by omega] at sn
      have hlen := shwR_len ((s.f x1.toNat).take j) 0
      rw [List.length_take] at hlen
      have htl := trmL_len (s.f x1.toNat)[j]
      refine bX10_show_37 ⟨h.1, ?_⟩
      rw [h.2.1.1.2.1, h.2.2.1.1.2.1, h.2.2.2.1.2.1, show Int.toNat ((x1.toNat : Nat) : Int) = x1.toNat by omega, hLJ.1, add1 (by omega)]
      refine ⟨rfl, ⟨by omega, by omega⟩, br_f (by omega) ⟨fun c0 => ?_, fun c0 => ?_⟩⟩
      · rw [if_pos (by omega), List.nil_append] at sn
        refine saysTerm_spec h (hv2.1.oO oJ) (by omega) okf.toR okf.1.2 (by have := hs.1.2; omega) hLJ hJ hjl (by rw [List.length_append]; omega) (fun J2 o g => ih (j + 1) J2 (by omega) (by omega) (oJ.tr o) (by rw [sn]; exact g))
      · rw [if_neg (by omega)] at sn
        refine says_spec h hJ (by omega) (fun J1 o1 g1 => ⟨h.1, ?_⟩)
        have oJ1 := oJ.tr o1
        refine saysTerm_spec h (hv2.1.oO oJ1) (by omega) okf.toR okf.1.2 (by have := hs.1.2; omega) (hLJ.oO o1) g1 hjl (by rw [List.length_append, List.length_append, List.length_singleton]; omega) (fun J2 o g => ih (j + 1) J2 (by omega) (by omega) (oJ1.tr o) ?_)
        rw [sn, ← List.append_assoc]; exact g
  rw [ea]
  rw [show (((x1.toNat : Nat) : Int)).toNat = x1.toNat by omega]
  refine ⟨rfl, ⟨by omega, by omega⟩, fun c0 => ?_, fun c0 => ?_⟩
  · have hne : s.f x1.toNat ≠ [] := fun z => c0 (by rw [z]; rfl)
    exact loop hne (s.f x1.toNat).length 0 I3 (by omega) (by omega) oO3 hO3
  · have hnil : s.f x1.toNat = [] := List.eq_nil_of_length_eq_zero (by have := Decidable.not_not.mp c0; omega)
    refine says_spec h hO3 (by show 0 < 2000; decide) (fun J o g => bX10_show_37 ⟨h.1, ?_⟩)
    have hLJ := hL3.oO o
    rw [h.2.1.1.2.1, h.2.2.1.1.2.1, h.2.2.2.1.2.1, show Int.toNat ((x1.toNat : Nat) : Int) = x1.toNat by omega, hLJ.1]
    have eL : shwL (s.f x1.toNat) = [48] := if_pos hnil
    refine ⟨rfl, ⟨by omega, by omega⟩, br_t (by omega) ?_⟩
    have g' : OutH J m (shwL (s.f x1.toNat)) := by rw [eL]; exact g
    rw [g'.1]
    exact fin J (oO3.tr o) g'
end RSH
