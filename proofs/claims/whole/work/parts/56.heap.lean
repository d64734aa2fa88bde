/-! ===== X10: the heap ===== -/
theorem ins_gap {p m v : Int} {L : List Tm} {lo : Nat} (h1 : ∀ t ∈ L.take lo, t.1 < m) (h2 : ∀ t, L[lo]? = some t → m < t.1) : insT p L m v = L.take lo ++ (m, v) :: L.drop lo := by
  rw [ins_at h1]
  congr 1
  cases hd : L.drop lo with
  | nil => rfl
  | cons a M =>
    have e : L[lo]? = some a := by
      have := List.head?_drop (l := L) (i := lo)
      rw [hd] at this; exact this.symm
    have := h2 a e
    show (if a.1 < m then _ else if a.1 = m then _ else _) = _
    rw [if_neg (by omega), if_neg (by omega)]
theorem ins_hit {p m v : Int} {L : List Tm} {lo : Nat} {a : Tm} (h1 : ∀ t ∈ L.take lo, t.1 < m) (h2 : L[lo]? = some a) (e : a.1 = m) : insT p L m v = L.take lo ++ (m, (a.2 + v) % p) :: L.drop (lo + 1) := by
  rw [ins_at h1]
  congr 1
  have hlo : lo < L.length := (List.getElem?_eq_some_iff.mp h2).1
  have e2 : L[lo] = a := (List.getElem?_eq_some_iff.mp h2).2
  rw [List.drop_eq_getElem_cons hlo, e2]
  show (if a.1 < m then _ else if a.1 = m then _ else _) = _
  rw [if_neg (by omega), if_pos e, e]
theorem gap_get {L : List Tm} {lo : Nat} {x t : Tm} {j : Nat} (hlo : lo ≤ L.length) (h : (L.take lo ++ x :: L.drop lo)[j]? = some t) : (j < lo ∧ L[j]? = some t) ∨ (j = lo ∧ t = x) ∨ (lo < j ∧ L[j - 1]? = some t) := by
  have hl : (L.take lo).length = lo := by rw [List.length_take]; omega
  by_cases c : j < lo
  · rw [List.getElem?_append_left (by omega), List.getElem?_take, if_pos c] at h
    exact Or.inl ⟨c, h⟩
  · rw [List.getElem?_append_right (by omega), hl] at h
    by_cases c2 : j = lo
    · rw [c2, Nat.sub_self] at h
      exact Or.inr (Or.inl ⟨c2, (Option.some.inj h).symm⟩)
    · rw [show j - lo = (j - lo - 1) + 1 by omega, List.getElem?_cons_succ, List.getElem?_drop, show lo + (j - lo - 1) = j - 1 by omega] at h
      exact Or.inr (Or.inr ⟨by omega, h⟩)
theorem hit_get {L : List Tm} {lo : Nat} {x t : Tm} {j : Nat} (hlo : lo < L.length) (h : (L.take lo ++ x :: L.drop (lo + 1))[j]? = some t) : (j ≠ lo ∧ L[j]? = some t) ∨ (j = lo ∧ t = x) := by
  have hl : (L.take lo).length = lo := by rw [List.length_take]; omega
  by_cases c : j < lo
  · rw [List.getElem?_append_left (by omega), List.getElem?_take, if_pos c] at h
    exact Or.inl ⟨by omega, h⟩
  · rw [List.getElem?_append_right (by omega), hl] at h
    by_cases c2 : j = lo
    · rw [c2, Nat.sub_self] at h
      exact Or.inr ⟨c2, (Option.some.inj h).symm⟩
    · rw [show j - lo = (j - lo - 1) + 1 by omega, List.getElem?_cons_succ, List.getElem?_drop, show lo + 1 + (j - lo - 1) = j by omega] at h
      exact Or.inl ⟨c2, h⟩
def HpH (I : MI) (m : Nat) (H : List Tm) : Prop := I m 9 = (H.length : Int) ∧ ∀ (j : Nat) (t : Tm), H[j]? = some t → I (m + 5) j = t.2 ∧ I (m + 6) (3 * j) = exx t.1 ∧ I (m + 6) (3 * j + 1) = exy t.1 ∧ I (m + 6) (3 * j + 2) = exz t.1
def offH (I I' : MI) (m : Nat) : Prop := (∀ b, b ≠ m → b ≠ m + 5 → b ≠ m + 6 → I' b = I b) ∧ ∀ j, j ≠ 9 → I' m j = I m j
theorem offH.rf {I : MI} {m : Nat} : offH I I m := ⟨fun _ _ _ _ => rfl, fun _ _ => rfl⟩
theorem offH.tr {I I1 I2 : MI} {m : Nat} (h : offH I I1 m) (h2 : offH I1 I2 m) : offH I I2 m := ⟨fun b x y z => (h2.1 b x y z).trans (h.1 b x y z), fun j x => (h2.2 j x).trans (h.2 j x)⟩
theorem offH.u {I I' : MI} {m b k : Nat} {v : Int} (e : I' = up2 I b k v) (hb : b = m + 5 ∨ b = m + 6 ∨ (b = m ∧ k = 9)) : offH I I' m := by
  refine ⟨fun c h1 h2 h3 => u_n e (by omega), fun j hj => ?_⟩
  rcases hb with h | h | h
  · rw [u_n e (by omega)]
  · rw [u_n e (by omega)]
  · rw [h.1] at e; exact u_o e (by omega)
theorem RfW.oH {I I' : MI} {m : Nat} {n : Int} {w : Nat → Int} (h : RfW I m n w) (ho : offH I I' m) : RfW I' m n w := by
  refine ⟨by rw [ho.2 1 (by omega)]; exact h.1, h.2.1, fun i hi => ?_, h.2.2.2⟩
  rw [ho.1 (m + 1) (by omega) (by omega) (by omega)]; exact h.2.2.1 i hi
theorem RfP.oH {I I' : MI} {m : Nat} {p : Int} (h : RfP I m p) (ho : offH I I' m) : RfP I' m p := ⟨by rw [ho.2 2 (by omega)]; exact h.1, h.2⟩
theorem RowH.oH {I I' : MI} {m r : Nat} {L : List Tm} (h : RowH I m r L) (ho : offH I I' m) : RowH I' m r L := by
  unfold RowH
  rw [ho.1 (m + 2) (by omega) (by omega) (by omega), ho.1 (m + 3) (by omega) (by omega) (by omega), ho.1 (m + 4) (by omega) (by omega) (by omega)]
  exact h
section RH
variable {G : Gl} {S : Sh} {R : MR} {m : Nat} {n p : Int} {w : Nat → Int} {H : List Tm} {Q : Sh → MI → MR → Prop}
theorem v10hc {I : MI} (h : RfS S R m) (hw : RfW I m n w) (hH : HpH I m H) (hk : ∀ t ∈ H, kOK n w t.1) (hlen : H.length ≤ 3999) {j : Nat} {t : Tm} (ht : H[j]? = some t) {k : Int} (kk : kOK n w k) : (vX10_heapCompares I R m (j : Int) (exx k) (exy k) (exz k) < 0 ↔ t.1 < k) ∧ (vX10_heapCompares I R m (j : Int) (exx k) (exy k) (exz k) = 0 ↔ t.1 = k) := by
  have hj : j < H.length := (List.getElem?_eq_some_iff.mp ht).1
  have e := hH.2 j t ht
  unfold vX10_heapCompares
  rw [h.2.1.2.1.2.1, w32_id (x := 3 * (j : Int)) (by omega), w32_id (x := 3 * (j : Int) + 1) (by omega), w32_id (x := 3 * (j : Int) + 2) (by omega), show Int.toNat (3 * (j : Int)) = 3 * j by omega, show Int.toNat (3 * (j : Int) + 1) = 3 * j + 1 by omega, show Int.toNat (3 * (j : Int) + 2) = 3 * j + 2 by omega, e.2.1, e.2.2.1, e.2.2.2]
  exact v10cmp h hw (hk t (List.mem_of_getElem? ht)) kk
theorem p10hc {I : MI} (h : RfS S R m) {j : Nat} (hj : j < 4000) {a b c : Int} : pX10_heapCompares S I R m (j : Int) a b c := by
  unfold pX10_heapCompares
  rw [h.2.1.2.1.2.1, h.2.2.1.2.1.2.1, h.2.2.2.2.1.2.1, w32_id (x := 3 * (j : Int)) (by omega), w32_id (x := 3 * (j : Int) + 1) (by omega), w32_id (x := 3 * (j : Int) + 2) (by omega)]
  exact ⟨h.1, rfl, ⟨by omega, by omega⟩, ⟨by omega, by omega⟩, ⟨by omega, by omega⟩, p10cmp h, trivial⟩
theorem heaps_shift {I : MI} {v a b c : Int} {lo len : Nat} (h : RfS S R m) (hlo : lo ≤ len) (hlen : len ≤ 3998)
    (hq : ∀ I', offH I I' m → I' m = I m → (∀ j, j < lo → I' (m + 5) j = I (m + 5) j) → (∀ j, lo < j → j ≤ len → I' (m + 5) j = I (m + 5) (j - 1)) → (∀ j, j < 3 * lo → I' (m + 6) j = I (m + 6) j) → (∀ j, 3 * lo + 3 ≤ j → j < 3 * len + 3 → I' (m + 6) j = I (m + 6) (j - 3)) → LX10_heaps_109 G m v a b c (lo : Int) (lo : Int) S I' R Q) : LX10_heaps_109 G m v a b c (lo : Int) (len : Int) S I R Q := by
  have inner : ∀ (q i k : Nat) (J I1 : MI), 3 - i = q → i ≤ 3 → lo < k → k ≤ len → (∀ b, b ≠ m + 6 → I1 b = J b) → (∀ j, I1 (m + 6) j = if 3 * k ≤ j ∧ j < 3 * k + i then J (m + 6) (j - 3) else J (m + 6) j) →
      (∀ I2, (∀ b, b ≠ m + 6 → I2 b = J b) → (∀ j, I2 (m + 6) j = if 3 * k ≤ j ∧ j < 3 * k + 3 then J (m + 6) (j - 3) else J (m + 6) j) → LX10_heaps_109 G m v a b c (lo : Int) ((k - 1 : Nat) : Int) S I2 R Q) → LX10_heaps_135 G m v a b c (lo : Int) (k : Int) (i : Int) S I1 R Q := by
    intro q
    induction q with
    | zero =>
      intro i k J I1 hqi hi hk1 hk2 ho hx hout
      have e : i = 3 := by omega
      rw [e] at hx
      refine bX10_heaps_135 (br_t (by omega) ?_)
      rw [w32_id (by omega), show (k : Int) + -1 = ((k - 1 : Nat) : Int) by omega]
      exact hout I1 ho hx
    | succ q ih =>
      intro i k J I1 hqi hi hk1 hk2 ho hx hout
      refine bX10_heaps_135 (br_f (by omega) ⟨h.1, ?_⟩)
      rw [h.2.1.2.1.2.1, h.2.2.1.2.1.2.1, h.2.2.2.2.1.2.1, w32_id (x := 3 * (k : Int)) (by omega), w32_id (x := 3 * (k : Int) - 3) (by omega), w32_id (x := 3 * (k : Int) - 3 + (i : Int)) (by omega), w32_id (x := 3 * (k : Int) + (i : Int)) (by omega), add1 (by omega)]
      refine ⟨rfl, ⟨by omega, by omega⟩, ⟨by omega, by omega⟩, fun I166 e166 => ih (i + 1) k J I166 (by omega) (by omega) hk1 hk2 (fun b hb => by rw [u_n e166 hb]; exact ho b hb) (fun j => ?_) hout⟩
      rw [show Int.toNat (3 * (k : Int) + (i : Int)) = 3 * k + i by omega, show Int.toNat (3 * (k : Int) - 3 + (i : Int)) = 3 * k - 3 + i by omega] at e166
      by_cases hj : j = 3 * k + i
      · rw [hj, u_s e166, if_pos (by omega), hx, if_neg (by omega), show 3 * k - 3 + i = 3 * k + i - 3 by omega]
      · rw [u_o e166 hj, hx]
        by_cases c1 : 3 * k ≤ j ∧ j < 3 * k + i
        · rw [if_pos c1, if_pos (by omega)]
        · rw [if_neg c1, if_neg (by omega)]
  have loop : ∀ (q k : Nat) (I1 : MI), k - lo = q → lo ≤ k → k ≤ len → offH I I1 m → I1 m = I m → (∀ j, j ≤ k → I1 (m + 5) j = I (m + 5) j) → (∀ j, k < j → j ≤ len → I1 (m + 5) j = I (m + 5) (j - 1)) → (∀ j, j < 3 * k + 3 → I1 (m + 6) j = I (m + 6) j) → (∀ j, 3 * k + 3 ≤ j → j < 3 * len + 3 → I1 (m + 6) j = I (m + 6) (j - 3)) → LX10_heaps_109 G m v a b c (lo : Int) (k : Int) S I1 R Q := by
    intro q
    induction q with
    | zero =>
      intro k I1 hqk h1 h2 ho hm n1 n2 x1 x2
      have e : k = lo := by omega
      rw [e] at n1 n2 x1 x2 ⊢
      exact hq I1 ho hm (fun j hj => n1 j (by omega)) n2 (fun j hj => x1 j (by omega)) x2
    | succ q ih =>
      intro k I1 hqk h1 h2 ho hm n1 n2 x1 x2
      refine bX10_heaps_109 (br_f (by omega) ⟨h.1, ?_⟩)
      rw [h.2.1.2.1.1, h.2.2.1.2.1.1, h.2.2.2.2.1.1, w32_id (x := (k : Int) - 1) (by omega), show Int.toNat (k : Int) = k by omega, show Int.toNat ((k : Int) - 1) = k - 1 by omega]
      refine ⟨rfl, ⟨by omega, by omega⟩, ⟨by omega, by omega⟩, fun J eJ => inner 3 0 k J J rfl (by omega) (by omega) h2 (fun _ _ => rfl) (fun j => by rw [if_neg (by omega)]) (fun I2 o2 y2 => ?_)⟩
      have eJ6 : J (m + 6) = I1 (m + 6) := u_n eJ (by omega)
      have e25 : I2 (m + 5) = J (m + 5) := o2 _ (by omega)
      refine ih (k - 1) I2 (by omega) (by omega) (by omega) (ho.tr ⟨fun b b1 b2 b3 => by rw [o2 b b3, u_n eJ b2], fun j hj => by rw [o2 m (by omega), u_n eJ (by omega)]⟩) (by rw [o2 m (by omega), u_n eJ (by omega)]; exact hm) (fun j hj => ?_) (fun j hj1 hj2 => ?_) (fun j hj => ?_) (fun j hj1 hj2 => ?_)
      · rw [e25, u_o eJ (by omega)]; exact n1 j (by omega)
      · rw [e25]
        by_cases hjk : j = k
        · rw [hjk, u_s eJ]; exact n1 (k - 1) (by omega)
        · rw [u_o eJ hjk]; exact n2 j (by omega) hj2
      · rw [y2, if_neg (by omega), eJ6]; exact x1 j (by omega)
      · rw [y2]
        by_cases hjk : j < 3 * k + 3
        · rw [if_pos (by omega), eJ6]; exact x1 (j - 3) (by omega)
        · rw [if_neg (by omega), eJ6]; exact x2 j (by omega) hj2
  exact loop (len - lo) len I rfl hlo (Nat.le_refl _) offH.rf rfl (fun _ _ => rfl) (fun j h1 h2 => by omega) (fun _ _ => rfl) (fun j h1 h2 => by omega)
theorem hget_lt {H : List Tm} (hs : Srt H) {i j : Nat} {s t : Tm} (h1 : H[i]? = some s) (h2 : H[j]? = some t) (hij : i < j) : s.1 < t.1 := by
  obtain ⟨a, b⟩ := List.getElem?_eq_some_iff.mp h1
  obtain ⟨c, d⟩ := List.getElem?_eq_some_iff.mp h2
  have := List.pairwise_iff_getElem.mp hs i j a c hij
  rw [b, d] at this; exact this
theorem heaps_spec {I : MI} {k v : Int} (h : RfS S R m) (hw : RfW I m n w) (hp : RfP I m p) (hH : HpH I m H) (hs : Srt H) (h0 : Red0 p H) (hk : ∀ t ∈ H, kOK n w t.1) (hlen : H.length ≤ 3998) (kk : kOK n w k) (hv : 0 ≤ v ∧ v < p)
    (hq : ∀ I', offH I I' m → HpH I' m (heapT p H k v) → Q S I' R) : CV G MX10_heaps [vR m, vI v, vI (exx k), vI (exy k), vI (exz k)] S I R Q := by
  have search : ∀ (q lo up : Nat), up - lo = q → lo ≤ up → up ≤ H.length → (∀ i t, H[i]? = some t → i < lo → t.1 < k) → (∀ i t, H[i]? = some t → up ≤ i → k ≤ t.1) → v ≠ 0 → LX10_heaps_14 G m v (exx k) (exy k) (exz k) (lo : Int) (up : Int) S I R Q := by
    intro q
    induction q using Nat.strongRecOn with
    | _ q ih =>
      intro lo up hqe h1 h2 hlo hup hv0
      have hT : heapT p H k v = insT p H k v := if_neg hv0
      rw [hT] at hq
      refine bX10_heaps_14 ⟨fun c => ⟨h.1, ?_⟩, fun c => ⟨h.1, ?_⟩⟩
      · have elo : lo = up := by omega
        have htake : ∀ t ∈ H.take lo, t.1 < k := fun t ht => by
          obtain ⟨i, hi, e⟩ := List.mem_iff_getElem.mp ht
          rw [List.length_take] at hi
          rw [List.getElem_take] at e
          exact hlo i t (by rw [List.getElem?_eq_getElem (by omega), e]) (by omega)
        -- no such key
        have miss : (∀ t, H[lo]? = some t → k < t.1) → LX10_heaps_109 G m v (exx k) (exy k) (exz k) (lo : Int) (I m 9) S I R Q := by
          intro hm
          rw [hH.1]
          refine heaps_shift h (by omega) (by omega) (fun I1 o1 e1 n1 n2 x1 x2 => bX10_heaps_109 (br_t (by omega) ⟨h.1, ?_⟩))
          rw [h.2.1.2.1.1, h.2.1.2.1.2.1, h.2.2.1.2.1.1, h.2.2.1.2.1.2.1, h.2.2.2.2.1.1, h.2.2.2.2.1.2.1, w32_id (x := 3 * (lo : Int)) (by omega), w32_id (x := 3 * (lo : Int) + 1) (by omega), w32_id (x := 3 * (lo : Int) + 2) (by omega), show Int.toNat (lo : Int) = lo by omega, show Int.toNat (3 * (lo : Int)) = 3 * lo by omega, show Int.toNat (3 * (lo : Int) + 1) = 3 * lo + 1 by omega, show Int.toNat (3 * (lo : Int) + 2) = 3 * lo + 2 by omega]
          refine ⟨rfl, ⟨by omega, by omega⟩, fun J1 f1 => ⟨rfl, ⟨by omega, by omega⟩, fun J2 f2 => ⟨⟨by omega, by omega⟩, fun J3 f3 => ⟨⟨by omega, by omega⟩, fun J4 f4 => fun J5 f5 => ?_⟩⟩⟩⟩
          have g9 : J4 m 9 = (H.length : Int) := by
            rw [u_n f4 (by omega), u_n f3 (by omega), u_n f2 (by omega), u_n f1 (by omega), e1]; exact hH.1
          rw [g9, add1 (by omega)] at f5
          have e5 : ∀ j, J5 (m + 5) j = if j = lo then v else I1 (m + 5) j := fun j => by
            rw [u_n f5 (by omega), u_n f4 (by omega), u_n f3 (by omega), u_n f2 (by omega)]
            by_cases hj : j = lo
            · rw [hj, u_s f1, if_pos rfl]
            · rw [u_o f1 hj, if_neg hj]
          have e6 : J5 (m + 6) = J4 (m + 6) := u_n f5 (by omega)
          have e60 : J5 (m + 6) (3 * lo) = exx k := by rw [e6, u_o f4 (by omega), u_o f3 (by omega), u_s f2]
          have e61 : J5 (m + 6) (3 * lo + 1) = exy k := by rw [e6, u_o f4 (by omega), u_s f3]
          have e62 : J5 (m + 6) (3 * lo + 2) = exz k := by rw [e6, u_s f4]
          have e6o : ∀ j, (j < 3 * lo ∨ 3 * lo + 3 ≤ j) → J5 (m + 6) j = I1 (m + 6) j := fun j hj => by
            rw [e6, u_o f4 (by omega), u_o f3 (by omega), u_o f2 (by omega), u_n f1 (by omega)]
          refine hq J5 (((((o1.tr (offH.u f1 (Or.inl rfl))).tr (offH.u f2 (Or.inr (Or.inl rfl)))).tr (offH.u f3 (Or.inr (Or.inl rfl)))).tr (offH.u f4 (Or.inr (Or.inl rfl)))).tr (offH.u f5 (Or.inr (Or.inr ⟨rfl, rfl⟩)))) ?_
          rw [ins_gap htake hm]
          refine ⟨?_, fun j t ht => ?_⟩
          · rw [u_s f5, List.length_append, List.length_cons, List.length_take, List.length_drop]; omega
          · rcases gap_get (by omega) ht with ⟨c1, c2⟩ | ⟨c1, c2⟩ | ⟨c1, c2⟩
            · have hj : j < H.length := (List.getElem?_eq_some_iff.mp c2).1
              have := hH.2 j t c2
              rw [e5, if_neg (by omega), n1 j c1, e6o _ (by omega), e6o _ (by omega), e6o _ (by omega), x1 _ (by omega), x1 _ (by omega), x1 _ (by omega)]
              exact this
            · rw [c1, c2, e5, if_pos rfl]
              exact ⟨rfl, e60, e61, e62⟩
            · have hj : j - 1 < H.length := (List.getElem?_eq_some_iff.mp c2).1
              have := hH.2 (j - 1) t c2
              rw [e5, if_neg (by omega), n2 j c1 (by omega), e6o _ (by omega), e6o _ (by omega), e6o _ (by omega), x2 _ (by omega) (by omega), x2 _ (by omega) (by omega), x2 _ (by omega) (by omega), show 3 * j - 3 = 3 * (j - 1) by omega, show 3 * j + 1 - 3 = 3 * (j - 1) + 1 by omega, show 3 * j + 2 - 3 = 3 * (j - 1) + 2 by omega]
              exact this
        refine ⟨fun c2 => miss (fun t ht => ?_), fun c2 => ⟨p10hc h (by rw [hH.1] at c2; omega), fun c3 => miss (fun t ht => ?_), fun c3 => ?_⟩⟩
        · rw [hH.1] at c2
          have := (List.getElem?_eq_some_iff.mp ht).1; omega
        · have e := (v10hc h hw hH hk (by omega) ht kk).2
          have g := hup lo t ht (by omega)
          have : ¬ t.1 = k := fun z => c3 (e.mpr z)
          omega
        · rw [hH.1] at c2
          have hlt : lo < H.length := by omega
          have ha : H[lo]? = some H[lo] := List.getElem?_eq_getElem hlt
          have ek : H[lo].1 = k := (v10hc h hw hH hk (by omega) ha kk).2.mp (Decidable.not_not.mp c3)
          have hn := hH.2 lo _ ha
          have hr0 := h0 _ (List.mem_of_getElem? ha)
          have hp2 := hp.2
          rw [h.2.1.2.1.1, h.2.2.1.2.1.1, h.2.2.2.2.1.1, show Int.toNat (lo : Int) = lo by omega, hn.1, hp.1, w32_id (x := H[lo].2 + v) (by omega), irem_eq (by omega) (by omega) (by omega) (by omega)]
          refine ⟨rfl, ⟨by omega, by omega⟩, by omega, fun J f => hq J (offH.u f (Or.inl rfl)) ?_⟩
          rw [ins_hit htake ha ek]
          refine ⟨?_, fun j t ht => ?_⟩
          · rw [u_n f (by omega), hH.1, List.length_append, List.length_cons, List.length_take, List.length_drop]; omega
          · rw [u_n f (show m + 6 ≠ m + 5 by omega)]
            rcases hit_get hlt ht with ⟨c1, c2⟩ | ⟨c1, c2⟩
            · rw [u_o f c1]; exact hH.2 j t c2
            · rw [c1, c2, u_s f]
              rw [← ek]
              exact ⟨rfl, hn.2⟩
      · have hlt : lo < up := by omega
        have emid : idiv (w32 ((lo : Int) + (up : Int))) 2 = (((lo + up) / 2 : Nat) : Int) := by
          rw [w32_id (by omega), idiv_eq (by omega) (by omega) (by omega) (by omega)]; omega
        rw [emid]
        have hmid : (lo + up) / 2 < H.length := by omega
        have ha : H[(lo + up) / 2]? = some H[(lo + up) / 2] := List.getElem?_eq_getElem hmid
        have cmp := v10hc h hw hH hk (by omega) ha kk
        refine ⟨p10hc h (by omega), fun c2 => ?_, fun c2 => ?_⟩
        · refine ih ((lo + up) / 2 - lo) (by omega) lo _ rfl (by omega) (by omega) hlo (fun i t ht hi => ?_) hv0
          have c3 : ¬ H[(lo + up) / 2].1 < k := fun z => by have := cmp.1.mpr z; omega
          by_cases hi2 : i = (lo + up) / 2
          · rw [hi2, ha] at ht
            rw [← Option.some.inj ht]; omega
          · have := hget_lt hs ha ht (by omega)
            omega
        · rw [add1 (by omega)]
          refine ih (up - ((lo + up) / 2 + 1)) (by omega) _ up rfl (by omega) h2 (fun i t ht hi => ?_) hup hv0
          have c3 : H[(lo + up) / 2].1 < k := cmp.1.mp (by omega)
          by_cases hi2 : i = (lo + up) / 2
          · rw [hi2, ha] at ht
            rw [← Option.some.inj ht]; omega
          · have := hget_lt hs ht ha (by omega)
            omega
  refine bX10_heaps ⟨fun c => ⟨h.1, ?_⟩, fun c => hq I offH.rf ?_⟩
  · rw [hH.1]
    exact search H.length 0 H.length (by omega) (by omega) (Nat.le_refl _) (fun i t _ hi => by omega) (fun i t ht hi => by
      have := (List.getElem?_eq_some_iff.mp ht).1; omega) c
  · rw [show heapT p H k v = H from if_pos (Decidable.not_not.mp c)]; exact hH
end RH
