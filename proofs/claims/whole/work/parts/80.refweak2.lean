/-! ===== X10: weak, kept, step ===== -/
def withD (s : Ms) (dv : Option (Int × Nat × Dv)) : Ms := (s.1, s.2.1, s.2.2.1, s.2.2.2.1, s.2.2.2.2.1, dv)
def weakA (s : Ms) (x1 x2 x : Int) (s' : Ms) : Prop := (slt x1 ∧ set8 x2 → ∃ r, DivR (s.p : Int) 41 (begD (s.p : Int) s.f (hld s.f x2 8) x1.toNat) r ∧ (r = none → x = -2 ∧ s' = withD s none) ∧ ∀ d, r = some d → x = (d.1 : Int) ∧ s' = withD s (some (hld s.f x2 8, x1.toNat, d))) ∧ (¬ (slt x1 ∧ set8 x2) → x = -1 ∧ s' = s)
def kq (d : Dv) (k : Int) : List Tm := if k = 0 then d.2.2.2.1.1 else if k = 1 then d.2.2.2.1.2.1 else d.2.2.2.1.2.2 (k - 2).toNat
def keptA (s : Ms) (x1 x2 x : Int) (s' : Ms) : Prop := (∀ st a d, s.dv = some (st, a, d) → slt x2 → 0 ≤ x1 → x1 ≤ 9 → (x1 ≤ 1 ∨ bitI st (x1 - 2).toNat = 1) → x = ((kq d x1).length : Int) ∧ s' = put s x2.toNat (kq d x1)) ∧ ((s.dv = none ∨ ¬ slt x2 ∨ ¬ (0 ≤ x1 ∧ x1 ≤ 9) ∨ ∀ st a d, s.dv = some (st, a, d) → ¬ (x1 ≤ 1 ∨ bitI st (x1 - 2).toNat = 1)) → x = -1 ∧ s' = s)
def stepA (s : Ms) (x1 x2 x : Int) : Prop := x = match s.dv with
  | none => -1
  | some (_, _, d) => if x1 = -1 then (if x2 = 0 then (d.1 : Int) else if x2 = 1 then (d.2.1 : Int) else if x2 = 2 then 1 else -1) else if (0 ≤ x1 ∧ x1 < (d.1 : Int)) ∧ 0 ≤ x2 ∧ x2 ≤ 4 then d.2.2.2.2 x1.toNat x2.toNat else -1
theorem begT_M {p : Int} {f : Nat → List Tm} {st : Int} : ∀ (k i : Nat), i < nb st k → ∃ k', k' < k ∧ bitI st k' = 1 ∧ nb st k' = i ∧ (begT p f st k).2 i = (f k', [], fun j => if j = k' then oneL (ngP p 1) else [])
  | 0, i, h => absurd h (Nat.not_lt_zero _)
  | k + 1, i, h => by
    rw [nb] at h
    rw [begT]
    by_cases c : bitI st k = 1
    · rw [if_pos c] at h ⊢
      show ∃ k', k' < k + 1 ∧ bitI st k' = 1 ∧ nb st k' = i ∧ (if i = (begT p f st k).1 then _ else (begT p f st k).2 i) = _
      by_cases e : i = (begT p f st k).1
      · rw [if_pos e]
        exact ⟨k, by omega, c, by rw [e, begT_nb], rfl⟩
      · rw [if_neg e]
        rw [begT_nb] at e
        obtain ⟨k', h1, h2⟩ := begT_M (p := p) (f := f) (st := st) k i (by omega)
        exact ⟨k', by omega, h2⟩
    · rw [if_neg c] at h ⊢
      obtain ⟨k', h1, h2⟩ := begT_M (p := p) (f := f) (st := st) k i (by omega)
      exact ⟨k', by omega, h2⟩
theorem begD_M {p : Int} {f : Nat → List Tm} {st : Int} {a : Nat} (hne : ∀ k, k < 8 → bitI st k = 1 → f k ≠ []) : DvM p st (begD p f st a) := by
  refine ⟨?_, fun i hi => ?_, fun j hj hb => ⟨rfl, fun i hi => ?_⟩, fun i hi => ?_⟩
  · show nb st 8 ≤ (begT p f st 8).1; rw [begT_nb]; exact Nat.le_refl _
  · have hi2 : i < (begT p f st 8).1 := hi
    rw [begT_nb] at hi2
    obtain ⟨k', h1, h2, h3, h4⟩ := begT_M (p := p) (f := f) 8 i hi2
    show ((begT p f st 8).2 i).1 ≠ []
    rw [h4]; exact hne k' h1 h2
  · have hi2 : i < (begT p f st 8).1 := hi
    rw [begT_nb] at hi2
    obtain ⟨k', h1, h2, h3, h4⟩ := begT_M (p := p) (f := f) 8 i hi2
    show ((begT p f st 8).2 i).2.2 j = []
    rw [h4]
    exact if_neg (fun e => hb (by rw [e]; exact h2))
  · obtain ⟨k', h1, h2, h3, h4⟩ := begT_M (p := p) (f := f) 8 i hi
    show ((begT p f st 8).2 i).2.1 = [] ∧ ∃ k, k < 8 ∧ bitI st k = 1 ∧ nb st k = i ∧ ∀ j, ((begT p f st 8).2 i).2.2 j = _
    rw [h4]
    exact ⟨rfl, k', h1, h2, h3, fun j => rfl⟩
section RWK2
variable {G : Gl} {S : Sh} {R : MR} {m : Nat} {s : Ms} {I : MI} {Q : Sh → MI → MR → Int → Prop}
theorem RowH.oW {I I' : MI} {r : Nat} {L : List Tm} (h : RowH I m r L) (hl : L.length ≤ 60) (hr : r < 8) (ho : offW I I' m) : RowH I' m r L :=
  h.o hl (ho.2.2.2.1 r hr) (fun j hj => ho.2.2.2.2.1 _ (by omega)) (fun j hj => ho.2.2.2.2.2 _ (by omega))
theorem RefV.oW {I I' : MI} {dv : Option (Int × Nat × Dv)} (h : RefV I m s) (hs : MsOK s) (ho : offW I I' m) (hd : RefD I' m dv) : RefV I' m (withD s dv) := by
  refine ⟨h.1.oW ho, h.2.1.oW ho, fun k hk => (h.2.2.1 k hk).oW (hs.2.2.2.1 k hk).2.2 hk ho, ?_, ?_, ?_, hd⟩
  · rw [ho.2.2.1 11 (by omega), ho.2.1.2.1]; exact h.2.2.2.1
  · rw [ho.2.2.1 14 (by omega), ho.2.2.1 15 (by omega)]; exact h.2.2.2.2.1
  · rw [ho.2.2.1 19 (by omega)]
    exact ⟨h.2.2.2.2.2.1.1, fun i x hx => by rw [ho.2.1.2.2]; exact h.2.2.2.2.2.1.2 i x hx⟩
theorem begins_spec {P : Sh → MI → MR → Prop} (h : RfS S R m) (hs : MsOK s) (hv : RefV I m s) {a : Nat} {set : Int} (ha : a < 8) (hset : 0 ≤ set ∧ set < 256)
    (hq : ∀ I', offW I I' m → I' m 21 = hld s.f set 8 → I' m 22 = (a : Int) → DvH I' m (hld s.f set 8) (begD (s.p : Int) s.f (hld s.f set 8) a) → P S I' R) : CV G MX10_begins [vR m, vI (a : Int), vI set] S I R P := by
  have st := hld s.f set 8
  have n8 := nbb_le (hld s.f set 8) 8
  refine bX10_begins ⟨h.1, fun J1 f1 => fun J2 f2 => fun J3 f3 => fun J4 f4 => ?_⟩
  have o4 : offW I J4 m := (((offW.u f1 (Or.inl ⟨rfl, by omega⟩)).tr (offW.u f2 (Or.inl ⟨rfl, by omega⟩))).tr (offW.u f3 (Or.inl ⟨rfl, by omega⟩))).tr (offW.u f4 (Or.inl ⟨rfl, by omega⟩))
  have fin : ∀ (J : MI), offW I J m → J m 24 = (nb (hld s.f set 8) 8 : Int) → J m 21 = hld s.f set 8 → J m 22 = (a : Int) → J m 25 = 0 → (∀ i, i < nb (hld s.f set 8) 8 → RowH J m (8 + 10 * i) ((begT (s.p : Int) s.f (hld s.f set 8) 8).2 i).1) → LX10_begins_22 G m (a : Int) set ((8 : Nat) : Int) S J R P := by
    intro J oJ j24 j21 j22 j25 rows
    have okT := begT_ok (w := s.w) (nv := s.n) (s := hld s.f set 8) (p2le hs) hs.2.2.2.1 8 (by omega)
    rw [begT_nb] at okT
    refine bX10_begins_22 (br_t (by omega) ⟨h.1, fun J5 f5 => ?_⟩)
    rw [j24] at f5
    have o5 := oJ.tr (offW.u f5 (Or.inl ⟨rfl, by omega⟩))
    have rs5 := up_rs f5 (Or.inl rfl)
    have r210 : vX10_rowOf m 21 0 = ((218 : Nat) : Int) := v10row (m := m) (a := 21) (c := 0) (by omega) (by omega)
    have r211 : vX10_rowOf m 21 1 = ((219 : Nat) : Int) := v10row (m := m) (a := 21) (c := 1) (by omega) (by omega)
    rw [r210, r211]
    refine copies_spec h ((hv.2.2.1 a ha).oW (hs.2.2.2.1 a ha).2.2 ha o5) (hs.2.2.2.1 a ha).2.2 (by omega) (by omega) (by omega) (fun J6 o6 h218 => ⟨h.1, ?_⟩)
    have w6 := o5.tr (o6.toW (by omega))
    have at219 : vX10_at m ((219 : Nat) : Int) 0 = ((60 * 219 + 0 : Nat) : Int) := v10at (r := 219) (j := 0) (by omega) (by omega)
    rw [h.2.1.1.2.1, h.2.2.1.1.2.1, h.2.2.2.1.2.1, h.2.1.1.2.2.1, h.2.2.1.1.2.2.1, h.2.2.2.1.2.2.1, at219, show Int.toNat ((219 : Nat) : Int) = 219 by omega, show Int.toNat ((60 * 219 + 0 : Nat) : Int) = 60 * 219 + 0 by omega]
    refine ⟨rfl, ⟨by omega, by omega⟩, fun J7 f7 => ⟨rfl, ⟨by omega, by omega⟩, fun J8 f8 => ?_⟩⟩
    have q7 : offRow J6 J7 m 219 := offRow.u f7 (Or.inl ⟨rfl, rfl⟩)
    have q8 : offRow J7 J8 m 219 := offRow.u f8 (Or.inr (Or.inl ⟨rfl, by omega, by omega⟩))
    -- the exponents of 1
    have l144 : ∀ (q i : Nat) (J9 : MI), 3 - i = q → i ≤ 3 → offRow J6 J9 m 219 → J9 (m + 2) 219 = 1 → J9 (m + 3) (60 * 219 + 0) = 1 → (∀ j, j < i → J9 (m + 4) (3 * (60 * 219 + 0) + j) = 0) → LX10_begins_144 G m (i : Int) S J9 R P := by
      intro q
      induction q with
      | zero =>
        intro i J9 hq1 hi o9 c1 c2 c3
        have h219 : RowH J9 m 219 (oneL 1) := by
          refine ⟨by rw [c1]; rfl, fun j t ht => ?_⟩
          have hj : j = 0 := by
            have := (List.getElem?_eq_some_iff.mp ht).1
            have : j < 1 := this
            omega
          rw [hj] at ht ⊢
          have et : (262143, 1) = t := Option.some.inj ht
          rw [← et]
          have g0 : J9 (m + 4) (3 * (60 * 219 + 0)) = 0 := c3 0 (by omega)
          refine ⟨c2, ?_, ?_, ?_⟩
          · rw [g0]; exact exx1.1.symm
          · rw [c3 1 (by omega)]; exact exx1.2.1.symm
          · rw [c3 2 (by omega)]; exact exx1.2.2.symm
        have w9 := w6.tr (o9.toW (by omega))
        have f9 : ∀ j, j ≠ 23 → J9 m j = J m j := fun j hj => by rw [o9.1 m (by omega) (by omega) (by omega), o6.1 m (by omega) (by omega) (by omega), u_o f5 hj]
        have g23 : J9 m 23 = (nb (hld s.f set 8) 8 : Int) := by rw [o9.1 m (by omega) (by omega) (by omega), o6.1 m (by omega) (by omega) (by omega), u_s f5]
        have l179 : ∀ (q i : Nat) (J : MI), nb (hld s.f set 8) 8 - i = q → i ≤ nb (hld s.f set 8) 8 → offW J9 J m → (∀ b, b ≠ m + 2 → J b = J9 b) → (∀ j, (j < 220 ∨ 220 + i ≤ j) → J (m + 2) j = J9 (m + 2) j) → (∀ j, j < i → J (m + 2) (220 + j) = 0) → LX10_begins_179 G m (i : Int) S J R P := by
          intro q
          induction q with
          | zero =>
            intro i J2 hq1 hi o2 e2 k1 k2
            refine bX10_begins_179 ⟨h.1, ?_⟩
            rw [e2 m (by omega), g23]
            have ro : ∀ {r : Nat} {L : List Tm}, r < 220 → RowH J9 m r L → RowH J2 m r L := fun hr hR => by
              unfold RowH at hR ⊢
              rw [k1 _ (Or.inl hr), e2 _ (by omega), e2 _ (by omega)]; exact hR
            refine br_t (by omega) (hq J2 (w9.tr o2) ?_ ?_ (DvH.parts.mpr ⟨⟨?_, ?_, ?_⟩, ⟨ro (by omega) (h218.oR (hs.2.2.2.1 a ha).2.2 o9 (by omega)), ro (by omega) h219, fun j hj hb => ⟨?_, fun z t hz => by cases hz⟩⟩, fun i2 hi2 => ⟨?_, fun z => ?_⟩, fun i2 hi2 => absurd hi2 (Nat.not_lt_zero _)⟩))
            · rw [e2 m (by omega), f9 21 (by omega)]; exact j21
            · rw [e2 m (by omega), f9 22 (by omega)]; exact j22
            · rw [e2 m (by omega)]; exact g23
            · rw [e2 m (by omega), f9 24 (by omega), j24]; show _ = (((begT (s.p : Int) s.f (hld s.f set 8) 8).1 : Nat) : Int); rw [begT_nb]
            · rw [e2 m (by omega), f9 25 (by omega)]; exact j25
            · exact k2 (nb (hld s.f set 8) j) (by have := nb_lt (st := hld s.f set 8) (i := j) (j := 8) hj hb; omega)
            · have hi3 : i2 < (begT (s.p : Int) s.f (hld s.f set 8) 8).1 := hi2
              rw [begT_nb] at hi3
              refine ro (by omega) ((((rows i2 hi3).rs rs5).oR (okT i2 hi3).1.2.2 o6 (by omega)).oR (okT i2 hi3).1.2.2 o9 (by omega))
            · have hi3 : i2 < (begT (s.p : Int) s.f (hld s.f set 8) 8).1 := hi2
              rw [begT_nb] at hi3
              omega
          | succ q ih =>
            intro i J2 hq1 hi o2 e2 k1 k2
            have rr : vX10_rowOf m 21 (w32 (2 + (i : Int))) = ((220 + i : Nat) : Int) := by
              have := v10row (m := m) (a := 21) (c := 2 + i) (by omega) (by omega)
              rw [w32_id (by omega), show 2 + (i : Int) = ((2 + i : Nat) : Int) by omega]
              refine this.trans ?_
              congr 1; omega
            refine bX10_begins_179 ⟨h.1, ?_⟩
            rw [e2 m (by omega), g23, h.2.1.1.2.1, h.2.2.1.1.2.1, h.2.2.2.1.2.1, rr, show Int.toNat ((220 + i : Nat) : Int) = 220 + i by omega, add1 (n := i) (by omega)]
            refine br_f (by omega) ⟨rfl, ⟨by omega, by omega⟩, fun J3 f3 => ih (i + 1) J3 (by omega) (by omega) (o2.tr ((offRow.u (r := 220 + i) f3 (Or.inl ⟨rfl, rfl⟩)).toW (by omega))) (fun b hb => by rw [u_n f3 hb]; exact e2 b hb) (fun j hj => by rw [u_o f3 (by omega)]; exact k1 j (by omega)) (fun j hj => ?_)⟩
            by_cases e : j = i
            · rw [e, u_s f3]
            · rw [u_o f3 (by omega)]; exact k2 j (by omega)
        exact bX10_begins_144 (br_t (by omega) (l179 _ 0 J9 rfl (Nat.zero_le _) offW.rf (fun _ _ => rfl) (fun _ _ => rfl) (fun j hj => absurd hj (Nat.not_lt_zero _))))
      | succ q ih =>
        intro i J9 hq1 hi o9 c1 c2 c3
        refine bX10_begins_144 (br_f (by omega) ⟨h.1, ?_⟩)
        rw [r211, at219, h.2.1.1.2.2.2, h.2.2.1.1.2.2.2, h.2.2.2.1.2.2.2, w32_id (x := 3 * ((60 * 219 + 0 : Nat) : Int)) (by omega), w32_id (x := 3 * ((60 * 219 + 0 : Nat) : Int) + (i : Int)) (by omega), show Int.toNat (3 * ((60 * 219 + 0 : Nat) : Int) + (i : Int)) = 3 * (60 * 219 + 0) + i by omega, add1 (n := i) (by omega)]
        refine ⟨rfl, ⟨by omega, by omega⟩, fun J10 f10 => ih (i + 1) J10 (by omega) (by omega) (o9.tr (offRow.u f10 (Or.inr (Or.inr ⟨rfl, by omega, by omega⟩)))) (by rw [u_n f10 (by omega)]; exact c1) (by rw [u_n f10 (by omega)]; exact c2) (fun j hj => ?_)⟩
        by_cases e : j = i
        · rw [e, u_s f10]
        · rw [u_o f10 (by omega)]; exact c3 j (by omega)
    exact l144 3 0 J8 rfl (by omega) (q7.tr q8) (by rw [u_n f8 (by omega)]; exact u_s f7) (u_s f8) (fun j hj => absurd hj (Nat.not_lt_zero _))
  have loop : ∀ (q k : Nat) (J : MI), 8 - k = q → k ≤ 8 → offW I J m → J m 24 = (nb (hld s.f set 8) k : Int) → J m 21 = hld s.f set k → J m 22 = (a : Int) → J m 25 = 0 → (∀ i, i < nb (hld s.f set 8) k → RowH J m (8 + 10 * i) ((begT (s.p : Int) s.f (hld s.f set 8) k).2 i).1) → LX10_begins_22 G m (a : Int) set (k : Int) S J R P := by
    intro q
    induction q with
    | zero =>
      intro k J hq1 hk oJ j24 j21 j22 j25 rows
      have ek : k = 8 := by omega
      rw [ek] at j24 j21 rows ⊢
      exact fin J oJ j24 j21 j22 j25 rows
    | succ q ih =>
      intro k J hq1 hk oJ j24 j21 j22 j25 rows
      have hb8 := hld_b8 s.f set (show k < 8 by omega)
      have hL := (hv.2.2.1 k (by omega)).oW (hs.2.2.2.1 k (by omega)).2.2 (by omega) oJ
      have nbk := nbb_le (hld s.f set 8) k
      have skip : ¬ (bitI set k = 1 ∧ s.f k ≠ []) → LX10_begins_22 G m (a : Int) set ((k + 1 : Nat) : Int) S J R P := by
        intro c
        rw [if_neg c] at hb8
        have nb1 : ¬ bitI (hld s.f set 8) k = 1 := by rw [hb8]; decide
        refine ih (k + 1) J (by omega) (by omega) oJ ?_ ?_ j22 j25 (fun i hi => ?_)
        · rw [j24, nb, if_neg nb1, Nat.add_zero]
        · rw [j21, hld, if_neg c, Int.add_zero]
        · rw [nb, if_neg nb1, Nat.add_zero] at hi
          rw [begT, if_neg nb1]; exact rows i hi
      refine bX10_begins_22 (br_f (by omega) ⟨h.1, ?_⟩)
      rw [v10has hset (by omega), h.2.1.1.2.1, h.2.2.1.1.2.1, h.2.2.2.1.2.1, show Int.toNat (k : Int) = k by omega, hL.1, add1 (n := k) (by omega)]
      refine ⟨fun c => skip (fun z => by rw [if_pos z.1] at c; exact absurd c (by decide)), fun c => ⟨rfl, ⟨by omega, by omega⟩, fun c2 => ?_, fun c2 => skip (fun z => z.2 (List.eq_nil_of_length_eq_zero (by have := Decidable.not_not.mp c2; omega)))⟩⟩
      have hbit : bitI set k = 1 := Decidable.of_not_not (fun z => c (by rw [if_neg z]))
      have hne : s.f k ≠ [] := fun z => c2 (by rw [z]; rfl)
      rw [if_pos ⟨hbit, hne⟩] at hb8
      have rA : vX10_rowOf m (nb (hld s.f set 8) k : Int) 0 = ((8 + 10 * nb (hld s.f set 8) k : Nat) : Int) := v10row (m := m) (a := nb (hld s.f set 8) k) (c := 0) (by omega) (by omega)
      rw [j24, rA]
      have okT := begT_ok (w := s.w) (nv := s.n) (s := hld s.f set 8) (p2le hs) hs.2.2.2.1 k (by omega)
      rw [begT_nb] at okT
      refine copies_spec h hL (hs.2.2.2.1 k (by omega)).2.2 (by omega) (by omega) (by omega) (fun J5 o5 h5 => ⟨h.1, fun J6 f6 => fun J7 f7 => ?_⟩)
      have g : ∀ j, J5 m j = J m j := fun j => by rw [o5.1 m (by omega) (by omega) (by omega)]
      rw [g 21, j21, ior_hld (by omega) (hld_r s.f set k)] at f6
      have g24 : J6 m 24 = (nb (hld s.f set 8) k : Int) := by rw [u_o f6 (by omega), g]; exact j24
      rw [g24, add1 (by omega)] at f7
      refine ih (k + 1) J7 (by omega) (by omega) (((oJ.tr (o5.toW (by omega))).tr (offW.u f6 (Or.inl ⟨rfl, by omega⟩))).tr (offW.u f7 (Or.inl ⟨rfl, by omega⟩))) ?_ ?_ (by rw [u_o f7 (by omega), u_o f6 (by omega), g]; exact j22) (by rw [u_o f7 (by omega), u_o f6 (by omega), g]; exact j25) (fun i hi => ?_)
      · rw [u_s f7, nb, if_pos hb8]
      · rw [u_o f7 (by omega), u_s f6, hld, if_pos ⟨hbit, hne⟩]
      · rw [nb, if_pos hb8] at hi
        rw [begT, if_pos hb8]
        show RowH J7 m (8 + 10 * i) (if i = (begT (s.p : Int) s.f (hld s.f set 8) k).1 then (s.f k, [], fun j => if j = k then oneL (ngP (s.p : Int) 1) else []) else (begT (s.p : Int) s.f (hld s.f set 8) k).2 i).1
        rw [begT_nb]
        by_cases e : i = nb (hld s.f set 8) k
        · rw [if_pos e, e]
          exact (h5.rs (up_rs f6 (Or.inl rfl))).rs (up_rs f7 (Or.inl rfl))
        · rw [if_neg e]
          exact (((rows i (by omega)).oR (okT i (by omega)).1.2.2 o5 (by omega)).rs (up_rs f6 (Or.inl rfl))).rs (up_rs f7 (Or.inl rfl))
  refine loop 8 0 J4 rfl (by omega) o4 ?_ ?_ ?_ (u_s f4) (fun i hi => absurd hi (Nat.not_lt_zero _))
  · rw [u_o f4 (by omega), u_o f3 (by omega), u_o f2 (by omega), u_s f1]; rfl
  · rw [u_o f4 (by omega), u_o f3 (by omega), u_s f2]; rfl
  · rw [u_o f4 (by omega), u_s f3]
theorem ref_weak (h : RfS S R m) (hs : MsOK s) (hv : RefV I m s) {x1 x2 : Int} (r1 : InR x1) (r2 : InR x2) (hq : ∀ I' x s', offX I I' m (m + 14) → RefV I' m s' → weakA s x1 x2 x s' → Q S I' R x) : CI G MX10_weak [vR m, vI x1, vI x2] S I R Q := by
  refine bX10_weak ⟨h.1, fun I2 e2 => ⟨p10slot h r1, ?_⟩⟩
  have o2 : offS I I2 m := offS.u e2 (Or.inl rfl)
  have hv2 := hv.oS hs o2
  have v1 := v10slot (m := m) r1
  have v2 := v10in (m := m) r2 (lo := 0) (hi := 255) (by omega) (by omega)
  have bad : ¬ (slt x1 ∧ set8 x2) → Q S I2 R (-1) := fun c => hq I2 _ s o2.X hv2 ⟨fun z => absurd z c, fun _ => ⟨rfl, rfl⟩⟩
  refine ⟨fun c => bad (fun z => (v1.mpr z.1) c), fun c1 => ⟨fun c2 => ?_, fun c2 => bad (fun z => c2 (v2.mpr (by omega)))⟩⟩
  have h1 := v1.mp c1
  have h2 := v2.mp c2
  have hcond : slt x1 ∧ set8 x2 := ⟨h1, by omega⟩
  have ea : x1 = ((x1.toNat : Nat) : Int) := by omega
  have ha : x1.toNat < 8 := by omega
  have r210 : vX10_rowOf m 21 0 = ((218 : Nat) : Int) := v10row (m := m) (a := 21) (c := 0) (by omega) (by omega)
  have hne : ∀ k, k < 8 → bitI (hld s.f x2 8) k = 1 → s.f k ≠ [] := fun k hk hb => by
    rw [hld_b8 s.f x2 hk] at hb
    refine fun z => ?_
    rw [if_neg (fun y => y.2 z)] at hb
    exact absurd hb (by decide)
  have hp2 := hv2.2.1.2
  have done : ∀ (J : MI) (r : Option Dv), DivR (s.p : Int) 41 (begD (s.p : Int) s.f (hld s.f x2 8) x1.toNat) r → offW I2 J m → (r = none → J m 20 = 0 → Q S J R (-2)) ∧ (∀ d, r = some d → J m 20 = 1 → J m 21 = hld s.f x2 8 → J m 22 = (x1.toNat : Int) → DvH J m (hld s.f x2 8) d → Q S J R (d.1 : Int)) := by
    intro J r hr oJ
    refine ⟨fun e h20 => hq J _ (withD s none) (o2.X.tr oJ.1) (hv2.oW hs oJ h20) ⟨fun _ => ⟨r, hr, fun _ => ⟨rfl, rfl⟩, fun d e2 => absurd (e.symm.trans e2) (fun z => by cases z)⟩, fun z => absurd hcond z⟩, fun d e h20 h21 h22 hD => hq J _ (withD s (some (hld s.f x2 8, x1.toNat, d))) (o2.X.tr oJ.1) (hv2.oW hs oJ ⟨h20, h21, h22, hD⟩) ⟨fun _ => ⟨r, hr, fun e2 => absurd (e.symm.trans e2) (fun z => by cases z), fun d2 e2 => ?_⟩, fun z => absurd hcond z⟩⟩
    rw [e] at e2
    rw [← Option.some.inj e2]; exact ⟨rfl, rfl⟩
  have loop : ∀ (k : Nat) (d : Dv) (J : MI), d.1 + k = 41 → offW I2 J m → J m 20 = 1 → J m 21 = hld s.f x2 8 → J m 22 = (x1.toNat : Int) → DvH J m (hld s.f x2 8) d → DivO (s.p : Int) s.n s.w d → DvM (s.p : Int) (hld s.f x2 8) d → (∀ r, DivR (s.p : Int) k d r → DivR (s.p : Int) 41 (begD (s.p : Int) s.f (hld s.f x2 8) x1.toNat) r) → LX10_weak_39 G m S J R Q := by
    intro k
    induction k with
    | zero => intro d J hk _ _ _ _ _ hO; have := hO.1.1; omega
    | succ k ih =>
      intro d J hk oJ h20 h21 h22 hD hO hM hR
      have hw := hv2.1.oW oJ
      have hp := hv2.2.1.oW oJ
      have hD2 := DvH.parts.mp hD
      have okE := hO.2.1
      refine bX10_weak_39 ⟨h.1, ?_⟩
      rw [h20, r210, h.2.1.1.2.1, h.2.2.1.1.2.1, h.2.2.2.1.2.1, show Int.toNat ((218 : Nat) : Int) = 218 by omega, hD2.2.1.1.1, hD2.1.2.2]
      have out : bestD d.2.2.1 d.2.2.2.1.1 d.2.1 = -1 → Q S J R (d.1 : Int) := fun hb =>
        (done J (some d) (hR _ ⟨fun _ => rfl, fun z => absurd hb z⟩) oJ).2 d rfl h20 h21 h22 hD
      refine br_f (by decide) ⟨rfl, ⟨by omega, by omega⟩, fun n0 => br_f (by decide) (out ?_), fun n0 => ?_⟩
      · have hnil : d.2.2.2.1.1 = [] := List.eq_nil_of_length_eq_zero (by omega)
        unfold bestD; rw [if_pos hnil]
      · have hnn : d.2.2.2.1.1 ≠ [] := fun z => n0 (by rw [z]; exact Int.le_refl _)
        have eb : bestD d.2.2.1 d.2.2.2.1.1 d.2.1 = (bst d.2.2.1 d.2.2.2.1.1 d.2.1).1 := by unfold bestD; rw [if_neg hnn]
        refine dividing_spec h hw hD2.2.2.1 hO.2.2 hM.2.1 hO.1.2 hD2.1.2.1 hD2.2.1.1 hnn ?_
        rw [← eb]
        refine ⟨fun hb => ⟨h.1, ?_⟩, fun hb => ⟨h.1, ?_⟩⟩
        · obtain ⟨_, k0, ek, hk0, hk1, hk2⟩ := bestD_r hb
          rw [ek]
          have et : (bestD d.2.2.1 d.2.2.2.1.1 d.2.1).toNat = k0 := by rw [ek]; omega
          refine steps_spec h hw hp hs.1.1 hD hO hM hk0 hnn hk2 (fun J2 hbad o3 => ⟨h.1, Or.inl rfl, fun J3 f3 => ?_⟩) (fun J2 hgood o3 f3 hD3 => ⟨h.1, Or.inr rfl, fun J3 f4 => ?_⟩)
          · have oJ3 := (oJ.tr o3).tr (offW.u f3 (Or.inl ⟨rfl, by omega⟩))
            have h20' : J3 m 20 = 0 := u_s f3
            refine bX10_weak_39 ⟨h.1, ?_⟩
            rw [h20']
            refine br_t rfl (br_t rfl ((done J3 none (hR _ ⟨fun z => absurd z hb, fun _ => ⟨fun _ => rfl, fun z => ?_⟩⟩) oJ3).1 rfl h20'))
            rw [et] at z
            exact absurd hbad z
          · have hgood' : ¬ (badD d k0 ∨ ¬ fitE (nowD (s.p : Int) d.2.2.2.1 (d.2.2.1 k0))) := hgood
            have hft : fitE (nowD (s.p : Int) d.2.2.2.1 (d.2.2.1 k0)) := Classical.byContradiction (fun z => hgood' (Or.inr z))
            have hnb : ¬ badD d k0 := fun z => hgood' (Or.inl z)
            refine ih (stpD (s.p : Int) d k0) J3 (by show d.1 + 1 + k = 41; omega) ((oJ.tr o3).tr (offW.u f4 (Or.inl ⟨rfl, by omega⟩))) (u_s f4) (by rw [u_o f4 (by omega), f3.2.1]; exact h21) (by rw [u_o f4 (by omega), f3.2.2]; exact h22) ?_ (stpD_ok (by omega) hs.2.2.1 hO hk0 hk1 hnn hk2 hnb hft) (hM.step hk0 hnn) (fun r hr => hR r ⟨fun z => absurd z hb, fun _ => ⟨fun z => ?_, fun _ => ?_⟩⟩)
            · have rs := up_rs f4 (Or.inl rfl)
              have g := DvH.parts.mp hD3
              exact DvH.parts.mpr ⟨by rw [u_o f4 (by omega), u_o f4 (by omega), u_o f4 (by omega)]; exact g.1, g.2.1.rs rs, g.2.2.1.rs rs, g.2.2.2.o (u_n f4 (by omega))⟩
            · rw [et] at z; exact absurd z hgood'
            · rw [et]; exact hr
        · rw [h20, hD2.1.2.2]
          exact br_f (by decide) (out (Decidable.not_not.mp hb))
  have go : CV G MX10_begins [vR m, vI ((x1.toNat : Nat) : Int), vI x2] S I2 R (fun S31 I31 R31 => (sT S31 m = 10 ∧ (∀ I36, I36 = up2 I31 m 20 1 → LX10_weak_39 G m S31 I36 R31 Q))) := by
    refine begins_spec h hs hv2 ha (by omega) (fun J oJ j21 j22 hD => ⟨h.1, fun J2 f2 => ?_⟩)
    have rs := up_rs f2 (Or.inl rfl)
    have g := DvH.parts.mp hD
    exact loop 41 _ J2 (by show 0 + 41 = 41; rfl) (oJ.tr (offW.u f2 (Or.inl ⟨rfl, by omega⟩))) (u_s f2) (by rw [u_o f2 (by omega)]; exact j21) (by rw [u_o f2 (by omega)]; exact j22) (DvH.parts.mpr ⟨by rw [u_o f2 (by omega), u_o f2 (by omega), u_o f2 (by omega)]; exact g.1, g.2.1.rs rs, g.2.2.1.rs rs, g.2.2.2.o (u_n f2 (by omega))⟩) (begD_ok (p2le hs) ha hs.2.2.2.1) (begD_M hne) (fun r hr => hr)
  rw [ea]
  rw [ea] at go
  rw [show (((x1.toNat : Nat) : Int)).toNat = x1.toNat by omega] at go
  exact go
end RWK2
