/-! ===== X10: rows onto the heap, the heap into rows ===== -/
def HpI (p n : Int) (w : Nat → Int) (H : List Tm) : Prop := Srt H ∧ Red0 p H ∧ ∀ t ∈ H, kOK n w t.1
theorem HpI.nil {p n : Int} {w : Nat → Int} : HpI p n w [] := ⟨List.Pairwise.nil, fun t h => absurd h List.not_mem_nil, fun t h => absurd h List.not_mem_nil⟩
theorem heapT_len (p m v : Int) (L : List Tm) : (heapT p L m v).length ≤ L.length + 1 := by
  unfold heapT
  by_cases c : v = 0
  · rw [if_pos c]; omega
  · rw [if_neg c]; exact ins_len p m v L
theorem HpI.ins {p n : Int} {w : Nat → Int} {H : List Tm} {k v : Int} (hp : 0 < p) (h : HpI p n w H) (hk : kOK n w k) (hv : 0 ≤ v ∧ v < p) : HpI p n w (heapT p H k v) := by
  unfold heapT
  by_cases c : v = 0
  · rw [if_pos c]; exact h
  · rw [if_neg c]
    refine ⟨ins_srt h.1, ins_red hp hv h.2.1, fun t ht => ?_⟩
    rcases ins_mem ht with e | ⟨s, hs, e⟩
    · rw [e]; exact hk
    · rw [← e]; exact h.2.2 s hs
theorem heapsL_snoc (p : Int) (L raw : List Tm) (t : Tm) : heapsL p L (raw ++ [t]) = heapT p (heapsL p L raw) t.1 t.2 := by
  unfold heapsL; rw [List.foldl_append]; rfl
theorem heapsL_app (p : Int) (L r s : List Tm) : heapsL p L (r ++ s) = heapsL p (heapsL p L r) s := by
  unfold heapsL; rw [List.foldl_append]
theorem heapsL_len (p : Int) : ∀ (raw L : List Tm), (heapsL p L raw).length ≤ L.length + raw.length
  | [], L => Nat.le_refl _
  | t :: raw, L => by
    have h1 := heapsL_len p raw (heapT p L t.1 t.2)
    have h2 := heapT_len p t.1 t.2 L
    show (heapsL p (heapT p L t.1 t.2) raw).length ≤ _
    rw [List.length_cons]; omega
theorem heapsL_I {p n : Int} {w : Nat → Int} (hp : 0 < p) : ∀ {raw H : List Tm}, HpI p n w H → (∀ t ∈ raw, kOK n w t.1 ∧ 0 ≤ t.2 ∧ t.2 < p) → HpI p n w (heapsL p H raw)
  | [], _, h, _ => h
  | t :: raw, H, h, hr => heapsL_I hp (raw := raw) (h.ins hp (hr t List.mem_cons_self).1 (hr t List.mem_cons_self).2) (fun s hs => hr s (List.mem_cons_of_mem _ hs))
/-- all but the cells of a row stays -/
def offRow (I I' : MI) (m r : Nat) : Prop := (∀ b, b ≠ m + 2 → b ≠ m + 3 → b ≠ m + 4 → I' b = I b) ∧ (∀ j, j ≠ r → I' (m + 2) j = I (m + 2) j) ∧ (∀ j, (j < 60 * r ∨ 60 * r + 60 ≤ j) → I' (m + 3) j = I (m + 3) j) ∧ ∀ j, (j < 180 * r ∨ 180 * r + 180 ≤ j) → I' (m + 4) j = I (m + 4) j
theorem offRow.rf {I : MI} {m r : Nat} : offRow I I m r := ⟨fun _ _ _ _ => rfl, fun _ _ => rfl, fun _ _ => rfl, fun _ _ => rfl⟩
theorem offRow.tr {I I1 I2 : MI} {m r : Nat} (h : offRow I I1 m r) (h2 : offRow I1 I2 m r) : offRow I I2 m r := ⟨fun b x y z => (h2.1 b x y z).trans (h.1 b x y z), fun j x => (h2.2.1 j x).trans (h.2.1 j x), fun j x => (h2.2.2.1 j x).trans (h.2.2.1 j x), fun j x => (h2.2.2.2 j x).trans (h.2.2.2 j x)⟩
theorem offRow.u {I I' : MI} {m r b k : Nat} {v : Int} (e : I' = up2 I b k v) (hb : (b = m + 2 ∧ k = r) ∨ (b = m + 3 ∧ 60 * r ≤ k ∧ k < 60 * r + 60) ∨ (b = m + 4 ∧ 180 * r ≤ k ∧ k < 180 * r + 180)) : offRow I I' m r := by
  refine ⟨fun c h1 h2 h3 => u_n e (by omega), fun j hj => ?_, fun j hj => ?_, fun j hj => ?_⟩
  · by_cases q : b = m + 2
    · rw [q] at e; exact u_o e (by omega)
    · rw [u_n e (by omega)]
  · by_cases q : b = m + 3
    · rw [q] at e; exact u_o e (by omega)
    · rw [u_n e (by omega)]
  · by_cases q : b = m + 4
    · rw [q] at e; exact u_o e (by omega)
    · rw [u_n e (by omega)]
theorem RowH.oR {I I' : MI} {m r q : Nat} {L : List Tm} (h : RowH I m q L) (hl : L.length ≤ 60) (ho : offRow I I' m r) (hq : q ≠ r) : RowH I' m q L :=
  h.o hl (ho.2.1 q hq) (fun j hj => ho.2.2.1 _ (by omega)) (fun j hj => ho.2.2.2 _ (by omega))
theorem RfW.oR {I I' : MI} {m r : Nat} {n : Int} {w : Nat → Int} (h : RfW I m n w) (ho : offRow I I' m r) : RfW I' m n w := by
  refine ⟨by rw [ho.1 m (by omega) (by omega) (by omega)]; exact h.1, h.2.1, fun i hi => ?_, h.2.2.2⟩
  rw [ho.1 (m + 1) (by omega) (by omega) (by omega)]; exact h.2.2.1 i hi
theorem RfP.oR {I I' : MI} {m r : Nat} {p : Int} (h : RfP I m p) (ho : offRow I I' m r) : RfP I' m p := ⟨by rw [ho.1 m (by omega) (by omega) (by omega)]; exact h.1, h.2⟩
theorem HpH.oR {I I' : MI} {m r : Nat} {H : List Tm} (h : HpH I m H) (ho : offRow I I' m r) : HpH I' m H := by
  unfold HpH
  rw [ho.1 m (by omega) (by omega) (by omega), ho.1 (m + 5) (by omega) (by omega) (by omega), ho.1 (m + 6) (by omega) (by omega) (by omega)]
  exact h
theorem nz_snoc {L : List Tm} {j : Nat} (hj : j < L.length) : nz (L.take (j + 1)) = nz (L.take j) ++ if L[j].2 = 0 then [] else [L[j]] := by
  rw [take_succ_get hj]
  unfold nz
  rw [List.filter_append]
  congr 1
  by_cases c : L[j].2 = 0
  · rw [if_pos c, List.filter_cons, if_neg (by rw [decide_eq_true_eq]; exact fun q => q c)]; rfl
  · rw [if_neg c, List.filter_cons, if_pos (by rw [decide_eq_true_eq]; exact c)]; rfl
theorem w64m {x y p : Int} (hx : 0 ≤ x ∧ x < p) (hy : 0 ≤ y ∧ y < p) (hp : 2 ≤ p ∧ p ≤ 32749) : w32 (lrem (w64 (x * y)) p) = x * y % p := by
  have h := mul_lt hx hy hp.2
  rw [w64_id (by omega), lrem_eq (by omega) (by omega) (by omega) (by omega)]
  have h1 := Int.emod_nonneg (x * y) (show p ≠ 0 by omega)
  have h2 := Int.emod_lt_of_pos (x * y) (show 0 < p by omega)
  rw [w32_id (by omega)]
section RR
variable {G : Gl} {S : Sh} {R : MR} {m : Nat} {n p : Int} {w : Nat → Int} {H L : List Tm}
theorem mk_row {k : Int} {r j : Nat} (h : RfS S R m) {I : MI} (hL : RowH I m r L) (hr : r < 300) (ok : okR n w L) (hk : VK n w k 33) (hj : j < L.length) :
    w32 (vX10_power I R m (r : Int) (j : Int) 0 + exx k) = exx (L[j].1 + (k - 262143)) ∧ w32 (vX10_power I R m (r : Int) (j : Int) 1 + exy k) = exy (L[j].1 + (k - 262143)) ∧ w32 (vX10_power I R m (r : Int) (j : Int) 2 + exz k) = exz (L[j].1 + (k - 262143)) ∧ kOK n w (L[j].1 + (k - 262143)) := by
  have e := hL.pow h hr ok.2 hj
  have ok1 := ok.1 L[j] (List.getElem_mem hj)
  have nh : ¬ hi L[j].1 := ok1.2
  unfold hi at nh
  have r1 := ex_r L[j].1
  have r2 := ex_r k
  have hk2 := hk.2.2
  have mk := mul_key ok1.1.1 hk.1 (by omega) (by omega) (by omega)
  rw [show L[j].1 + (k - 262143) = L[j].1 + k - 262143 by omega]
  rw [e.1, e.2.1, e.2.2, mk.2.1, mk.2.2.1, mk.2.2.2.1, w32_id (by omega), w32_id (by omega), w32_id (by omega)]
  refine ⟨rfl, rfl, rfl, mk.1, ?_⟩
  have v1 := ok1.1.2
  have v2 := hk.2.1
  unfold inV at v1 v2 ⊢
  omega
theorem heapsRow_spec {I : MI} {Q : Sh → MI → MR → Prop} {by_ k : Int} {r : Nat} (h : RfS S R m) (hw : RfW I m n w) (hp : RfP I m p) (hH : HpH I m H) (hI : HpI p n w H) (hL : RowH I m r L) (hr : r < 300) (ok : okR n w L) (hred : Red0 p L) (hby : 0 ≤ by_ ∧ by_ < p) (hk : VK n w k 33) (hlen : H.length + L.length ≤ 3999)
    (hq : ∀ I', offH I I' m → HpH I' m (heapsL p H (L.map (tmT p by_ (k - 262143)))) → HpI p n w (heapsL p H (L.map (tmT p by_ (k - 262143)))) → Q S I' R) : CV G MX10_heapsRow [vR m, vI (r : Int), vI by_, vI (exx k), vI (exy k), vI (exz k)] S I R Q := by
  have hp2 := hp.2
  have loop : ∀ (q j : Nat) (I1 : MI), L.length - j = q → j ≤ L.length → offH I I1 m → HpH I1 m (heapsL p H ((L.take j).map (tmT p by_ (k - 262143)))) → HpI p n w (heapsL p H ((L.take j).map (tmT p by_ (k - 262143)))) → LX10_heapsRow_3 G m (r : Int) by_ (exx k) (exy k) (exz k) (j : Int) S I1 R Q := by
    intro q
    induction q with
    | zero =>
      intro j I1 hqj hj ho h1 h2
      have hL1 := hL.oH ho
      refine bX10_heapsRow_3 ⟨h.1, ?_⟩
      rw [h.2.1.1.2.1, h.2.2.1.1.2.1, h.2.2.2.1.2.1, show Int.toNat (r : Int) = r by omega, hL1.1]
      refine ⟨rfl, ⟨by omega, by omega⟩, br_t (by omega) ?_⟩
      rw [List.take_of_length_le (by omega)] at h1 h2
      exact hq I1 ho h1 h2
    | succ q ih =>
      intro j I1 hqj hj ho h1 h2
      have hjl : j < L.length := by omega
      have hj60 : j < 60 := by have := ok.2; omega
      have hL1 := hL.oH ho
      have mk := mk_row h hL1 hr ok hk hjl
      have t := hL1.2 j L[j] (List.getElem?_eq_getElem hjl)
      have rd := hred L[j] (List.getElem_mem hjl)
      have hP1 : I1 m 2 = p := by rw [ho.2 2 (by omega)]; exact hp.1
      have elen := heapsL_len p ((L.take j).map (tmT p by_ (k - 262143))) H
      rw [List.length_map, List.length_take] at elen
      have er := Int.emod_nonneg (L[j].2 * by_) (show p ≠ 0 by omega)
      have er2 := Int.emod_lt_of_pos (L[j].2 * by_) (show 0 < p by omega)
      have es : heapsL p H ((L.take (j + 1)).map (tmT p by_ (k - 262143))) = heapT p (heapsL p H ((L.take j).map (tmT p by_ (k - 262143)))) (L[j].1 + (k - 262143)) (L[j].2 * by_ % p) := by
        rw [take_succ_get hjl, List.map_append, List.map_cons, List.map_nil, heapsL_snoc]
        show heapT p _ (L[j].1 + (k - 262143)) (by_ * L[j].2 % p) = _
        rw [Int.mul_comm]
      refine bX10_heapsRow_3 ⟨h.1, ?_⟩
      rw [h.2.1.1.2.1, h.2.1.1.2.2.1, h.2.2.1.1.2.1, h.2.2.1.1.2.2.1, h.2.2.2.1.2.1, h.2.2.2.1.2.2.1, show Int.toNat (r : Int) = r by omega, hL1.1, v10at hr hj60, show Int.toNat ((60 * r + j : Nat) : Int) = 60 * r + j by omega, t.1, hP1, w64m rd hby hp2, mk.1, mk.2.1, mk.2.2.1, add1 (by omega)]
      refine ⟨rfl, ⟨by omega, by omega⟩, br_f (by omega) ⟨rfl, ⟨by omega, by omega⟩, by omega, p10pow (v := 0) h hr hj60 (by omega), p10pow (v := 1) h hr hj60 (by omega), p10pow (v := 2) h hr hj60 (by omega), ?_⟩⟩
      refine heaps_spec h (hw.oH ho) (hp.oH ho) h1 h2.1 h2.2.1 h2.2.2 (by omega) mk.2.2.2 ⟨er, er2⟩ (fun I2 o2 g2 => ?_)
      refine ih (j + 1) I2 (by omega) (by omega) (ho.tr o2) ?_ ?_
      · rw [es]; exact g2
      · rw [es]; exact h2.ins (by omega) mk.2.2.2 ⟨er, er2⟩
  exact bX10_heapsRow (loop L.length 0 I (by omega) (by omega) offH.rf hH hI)
theorem takes_write {I : MI} {Q : Sh → MI → MR → Int → Prop} {r : Nat} (h : RfS S R m) (hH : HpH I m H) (hr : r < 300) (hlen : H.length ≤ 3999) (h60 : (nz H).length ≤ 60) (h0 : I (m + 2) r = 0) (hq : ∀ I', offRow I I' m r → RowH I' m r (nz H) → Q S I' R 1) : LX10_takes_103 G m (r : Int) 0 S I R Q := by
  have inner : ∀ (q i j : Nat) (J I1 : MI) (K : List Tm), 3 - i = q → i ≤ 3 → j < H.length → K.length < 60 → offRow J I1 m r → HpH J m H → J (m + 2) r = (K.length : Int) → I1 (m + 2) r = (K.length : Int) → (∀ v, v < i → I1 (m + 4) (3 * (60 * r + K.length) + v) = J (m + 6) (3 * j + v)) → I1 (m + 3) = J (m + 3) → (∀ z, (z < 3 * (60 * r + K.length) ∨ 3 * (60 * r + K.length) + 3 ≤ z) → I1 (m + 4) z = J (m + 4) z) →
      (∀ I2, offRow J I2 m r → I2 (m + 2) r = ((K.length + 1 : Nat) : Int) → (∀ v, v < 3 → I2 (m + 4) (3 * (60 * r + K.length) + v) = J (m + 6) (3 * j + v)) → I2 (m + 3) = J (m + 3) → (∀ z, (z < 3 * (60 * r + K.length) ∨ 3 * (60 * r + K.length) + 3 ≤ z) → I2 (m + 4) z = J (m + 4) z) → LX10_takes_103 G m (r : Int) ((j + 1 : Nat) : Int) S I2 R Q) → LX10_takes_151 G m (r : Int) (j : Int) (i : Int) S I1 R Q := by
    intro q
    induction q with
    | zero =>
      intro i j J I1 K hq1 hi hj hK ho hJ hJc hc hx hn hz hout
      have e : i = 3 := by omega
      refine bX10_takes_151 (br_t (by omega) ⟨h.1, ?_⟩)
      rw [h.2.1.1.2.1, h.2.2.1.1.2.1, h.2.2.2.1.2.1, show Int.toNat (r : Int) = r by omega, hc, add1 (by omega), add1 (by omega)]
      refine ⟨rfl, ⟨by omega, by omega⟩, fun I2 e2 => hout I2 (ho.tr (offRow.u e2 (Or.inl ⟨rfl, rfl⟩))) (u_s e2) (fun v hv => ?_) (by rw [u_n e2 (by omega)]; exact hn) (fun z hz2 => by rw [u_n e2 (by omega)]; exact hz z hz2)⟩
      rw [u_n e2 (by omega)]; exact hx v (by omega)
    | succ q ih =>
      intro i j J I1 K hq1 hi hj hK ho hJ hJc hc hx hn hz hout
      refine bX10_takes_151 (br_f (by omega) ⟨h.1, ?_⟩)
      have e6 : I1 (m + 6) = J (m + 6) := ho.1 _ (by omega) (by omega) (by omega)
      rw [h.2.1.1.2.1, h.2.2.1.1.2.1, h.2.2.2.1.2.1, h.2.1.2.1.2.1, h.2.2.1.2.1.2.1, h.2.2.2.2.1.2.1, h.2.1.1.2.2.2, h.2.2.1.1.2.2.2, h.2.2.2.1.2.2.2, show Int.toNat (r : Int) = r by omega, hc, v10at hr hK, w32_id (x := 3 * (j : Int)) (by omega), w32_id (x := 3 * (j : Int) + (i : Int)) (by omega), w32_id (x := 3 * ((60 * r + K.length : Nat) : Int)) (by omega), w32_id (x := 3 * ((60 * r + K.length : Nat) : Int) + (i : Int)) (by omega), add1 (by omega), show Int.toNat (3 * (j : Int) + (i : Int)) = 3 * j + i by omega, show Int.toNat (3 * ((60 * r + K.length : Nat) : Int) + (i : Int)) = 3 * (60 * r + K.length) + i by omega]
      refine ⟨rfl, ⟨by omega, by omega⟩, rfl, ⟨by omega, by omega⟩, rfl, ⟨by omega, by omega⟩, fun I2 e2 => ih (i + 1) j J I2 K (by omega) (by omega) hj hK (ho.tr (offRow.u e2 (Or.inr (Or.inr ⟨rfl, by omega, by omega⟩)))) hJ hJc (by rw [u_n e2 (by omega)]; exact hc) (fun v hv => ?_) (by rw [u_n e2 (by omega)]; exact hn) (fun z hz2 => by rw [u_o e2 (by omega)]; exact hz z hz2) hout⟩
      by_cases hvi : v = i
      · rw [hvi, u_s e2, e6]
      · rw [u_o e2 (by omega)]; exact hx v (by omega)
  have loop : ∀ (q j : Nat) (I1 : MI), H.length - j = q → j ≤ H.length → offRow I I1 m r → RowH I1 m r (nz (H.take j)) → LX10_takes_103 G m (r : Int) (j : Int) S I1 R Q := by
    intro q
    induction q with
    | zero =>
      intro j I1 hqj hj ho hL
      have hH1 := hH.oR ho
      refine bX10_takes_103 ⟨h.1, ?_⟩
      rw [hH1.1]
      rw [List.take_of_length_le (by omega)] at hL
      exact br_t (by omega) (hq I1 ho hL)
    | succ q ih =>
      intro j I1 hqj hj ho hL
      have hjl : j < H.length := by omega
      have hH1 := hH.oR ho
      have t := hH1.2 j H[j] (List.getElem?_eq_getElem hjl)
      have sn := nz_snoc hjl
      refine bX10_takes_103 ⟨h.1, ?_⟩
      rw [hH1.1, h.2.1.2.1.1, h.2.2.1.2.1.1, h.2.2.2.2.1.1, show Int.toNat (j : Int) = j by omega, t.1, add1 (by omega)]
      refine br_f (by omega) ⟨rfl, ⟨by omega, by omega⟩, fun c => ?_, fun c => ?_⟩
      · rw [if_neg c] at sn
        have hK : (nz (H.take j)).length < 60 := by
          have e1 : nz H = nz (H.take (j + 1)) ++ nz (H.drop (j + 1)) := by
            unfold nz; rw [← List.filter_append, List.take_append_drop]
          rw [e1, sn, List.length_append, List.length_append, List.length_singleton] at h60; omega
        rw [h.2.1.1.2.1, h.2.2.1.1.2.1, h.2.2.2.1.2.1, h.2.1.1.2.2.1, h.2.2.1.1.2.2.1, h.2.2.2.1.2.2.1, show Int.toNat (r : Int) = r by omega, hL.1, v10at hr hK, show Int.toNat ((60 * r + (nz (H.take j)).length : Nat) : Int) = 60 * r + (nz (H.take j)).length by omega]
        refine ⟨rfl, ⟨by omega, by omega⟩, rfl, ⟨by omega, by omega⟩, fun J eJ => ?_⟩
        have oJ : offRow I1 J m r := offRow.u eJ (Or.inr (Or.inl ⟨rfl, by omega, by omega⟩))
        refine inner 3 0 j J J (nz (H.take j)) rfl (by omega) hjl hK offRow.rf (hH1.oR oJ) (by rw [u_n eJ (by omega)]; exact hL.1) (by rw [u_n eJ (by omega)]; exact hL.1) (fun v hv => absurd hv (Nat.not_lt_zero _)) rfl (fun _ _ => rfl) (fun I2 o2 k1 k2 k3 k4 => ih (j + 1) I2 (by omega) (by omega) (ho.tr (oJ.tr o2)) ?_)
        rw [sn]
        refine ⟨?_, fun z s hz => ?_⟩
        · rw [k1, List.length_append, List.length_singleton]
        · have eJ4 : J (m + 4) = I1 (m + 4) := u_n eJ (by omega)
          have eJ6 : J (m + 6) = I1 (m + 6) := u_n eJ (by omega)
          by_cases hzl : z < (nz (H.take j)).length
          · rw [List.getElem?_append_left hzl] at hz
            have := hL.2 z s hz
            rw [k3, u_o eJ (by omega), k4 _ (by omega), k4 _ (by omega), k4 _ (by omega), eJ4]
            exact this
          · rw [List.getElem?_append_right (by omega)] at hz
            have ez : z = (nz (H.take j)).length := by
              have := (List.getElem?_eq_some_iff.mp hz).1
              rw [List.length_singleton] at this; omega
            rw [ez, Nat.sub_self] at hz
            have es : H[j] = s := Option.some.inj hz
            have kk0 : I2 (m + 4) (3 * (60 * r + (nz (H.take j)).length)) = J (m + 6) (3 * j) := k2 0 (by omega)
            have kk1 := k2 1 (by omega)
            have kk2 := k2 2 (by omega)
            rw [ez, k3, u_s eJ, kk0, kk1, kk2, eJ6, ← es]
            exact ⟨rfl, t.2⟩
      · have c' : H[j].2 = 0 := Decidable.not_not.mp c
        rw [if_pos c', List.append_nil] at sn
        exact ih (j + 1) I1 (by omega) (by omega) ho (by rw [sn]; exact hL)
  exact loop H.length 0 I (by omega) (by omega) offRow.rf ⟨h0, fun j t ht => by cases ht⟩
theorem takes_spec {I : MI} {Q : Sh → MI → MR → Int → Prop} {r : Nat} (h : RfS S R m) (hH : HpH I m H) (hr : r < 300) (hlen : H.length ≤ 3999)
    (hq : ∀ I', fits 60 (nz H) → offRow I I' m r → RowH I' m r (nz H) → Q S I' R 1) (hf : ¬ fits 60 (nz H) → Q S I R 0) : CI G MX10_takes [vR m, vI (r : Int)] S I R Q := by
  have inner : ∀ (q i j : Nat) (c fl : Int), 3 - i = q → i ≤ 3 → j < H.length → (∀ fl2 : Int, (fl2 = 0 ∨ fl2 = 1) → (fl2 = 1 ↔ fl = 1 ∧ ∀ v, i ≤ v → v < 3 → I (m + 6) (3 * j + v) ≤ 30) → LX10_takes_7 G m (r : Int) c fl2 ((j + 1 : Nat) : Int) S I R Q) → (fl = 0 ∨ fl = 1) → LX10_takes_36 G m (r : Int) c fl (j : Int) (i : Int) S I R Q := by
    intro q
    induction q with
    | zero =>
      intro i j c fl hqi hi hj hout hfl
      refine bX10_takes_36 (br_t (by omega) ?_)
      rw [add1 (by omega)]
      exact hout fl hfl ⟨fun e => ⟨e, fun v h1 h2 => by omega⟩, fun e => e.1⟩
    | succ q ih =>
      intro i j c fl hqi hi hj hout hfl
      refine bX10_takes_36 (br_f (by omega) ⟨fun f0 => ?_, fun f0 => ⟨h.1, ?_⟩⟩)
      · rw [add1 (by omega)]
        exact ih (i + 1) j c 0 (by omega) (by omega) hj (fun fl2 h1 h2 => hout fl2 h1 (h2.trans ⟨fun e => absurd e.1 (by omega), fun e => absurd e.1 (by omega)⟩)) (Or.inl rfl)
      · rw [h.2.1.2.1.2.1, h.2.2.1.2.1.2.1, h.2.2.2.2.1.2.1, w32_id (x := 3 * (j : Int)) (by omega), w32_id (x := 3 * (j : Int) + (i : Int)) (by omega), add1 (by omega), show Int.toNat (3 * (j : Int) + (i : Int)) = 3 * j + i by omega]
        refine ⟨rfl, ⟨by omega, by omega⟩, fun c30 => ?_, fun c30 => ?_⟩
        · exact ih (i + 1) j c 0 (by omega) (by omega) hj (fun fl2 h1 h2 => hout fl2 h1 (h2.trans ⟨fun e => absurd e.1 (by omega), fun e => absurd (e.2 i (Nat.le_refl _) (by omega)) (by omega)⟩)) (Or.inl rfl)
        · refine ih (i + 1) j c 1 (by omega) (by omega) hj (fun fl2 h1 h2 => hout fl2 h1 (h2.trans ⟨fun e => ⟨by omega, fun v hv1 hv2 => ?_⟩, fun e => ⟨rfl, fun v hv1 hv2 => e.2 v (by omega) hv2⟩⟩)) (Or.inr rfl)
          by_cases hvi : v = i
          · rw [hvi]; omega
          · exact e.2 v (by omega) hv2
  have loop : ∀ (q j : Nat) (fl : Int), H.length - j = q → j ≤ H.length → (fl = 0 ∨ fl = 1) → (fl = 1 ↔ ∀ t ∈ nz (H.take j), ¬ hi t.1) → LX10_takes_7 G m (r : Int) ((nz (H.take j)).length : Int) fl (j : Int) S I R Q := by
    intro q
    induction q with
    | zero =>
      intro j fl hqj hj h01 hfl
      rw [List.take_of_length_le (by omega)] at hfl ⊢
      refine bX10_takes_7 ⟨h.1, ?_⟩
      rw [hH.1]
      refine br_t (by omega) ⟨fun c => hf (fun z => ?_), fun c => ⟨fun c2 => ?_, fun c2 => hf (fun z => ?_)⟩⟩
      · have := hfl.mpr z.2; omega
      · rw [h.2.1.1.2.1, h.2.2.1.1.2.1, h.2.2.2.1.2.1, show Int.toNat (r : Int) = r by omega]
        refine ⟨rfl, ⟨by omega, by omega⟩, fun I1 e1 => ?_⟩
        have o1 : offRow I I1 m r := offRow.u e1 (Or.inl ⟨rfl, rfl⟩)
        have ft : fits 60 (nz H) := ⟨by omega, hfl.mp (by omega)⟩
        exact takes_write h (hH.oR o1) hr hlen ft.1 (u_s e1) (fun I2 o2 hL => hq I2 ft (o1.tr o2) hL)
      · have := z.1; omega
    | succ q ih =>
      intro j fl hqj hj h01 hfl
      have hjl : j < H.length := by omega
      have t := hH.2 j H[j] (List.getElem?_eq_getElem hjl)
      have sn := nz_snoc hjl
      have hlt : (nz (H.take j)).length ≤ j := by
        have := List.length_filter_le (fun t : Tm => decide (t.2 ≠ 0)) (H.take j)
        rw [List.length_take] at this
        show (List.filter (fun t : Tm => decide (t.2 ≠ 0)) (H.take j)).length ≤ j
        omega
      refine bX10_takes_7 ⟨h.1, ?_⟩
      rw [hH.1, h.2.1.2.1.1, h.2.2.1.2.1.1, h.2.2.2.2.1.1, show Int.toNat (j : Int) = j by omega, t.1, add1 (n := j) (by omega), add1 (n := (nz (H.take j)).length) (by omega)]
      refine br_f (by omega) ⟨rfl, ⟨by omega, by omega⟩, fun c => ?_, fun c => ?_⟩
      · rw [if_neg c] at sn
        refine inner 3 0 j _ fl rfl (by omega) hjl (fun fl2 g1 g2 => ?_) h01
        have := ih (j + 1) fl2 (by omega) (by omega) g1
        rw [sn, List.length_append, List.length_singleton] at this
        refine this (g2.trans ⟨fun e s hs => ?_, fun e => ⟨hfl.mpr (fun s hs => e s (List.mem_append_left _ hs)), fun v _ hv => ?_⟩⟩)
        · rcases List.mem_append.mp hs with hs | hs
          · exact hfl.mp e.1 s hs
          · rw [List.mem_singleton.mp hs]
            have a0 : I (m + 6) (3 * j) ≤ 30 := e.2 0 (by omega) (by omega)
            have a1 := e.2 1 (by omega) (by omega)
            have a2 := e.2 2 (by omega) (by omega)
            rw [t.2.1] at a0
            rw [t.2.2.1] at a1
            rw [t.2.2.2] at a2
            unfold hi; omega
        · have hh := e H[j] (List.mem_append_right _ (List.mem_singleton.mpr rfl))
          unfold hi at hh
          have h3 : v = 0 ∨ v = 1 ∨ v = 2 := by omega
          rcases h3 with rfl | rfl | rfl
          · show I (m + 6) (3 * j) ≤ 30
            rw [t.2.1]; omega
          · rw [t.2.2.1]; omega
          · rw [t.2.2.2]; omega
      · have c' : H[j].2 = 0 := Decidable.not_not.mp c
        rw [if_pos c', List.append_nil] at sn
        have := ih (j + 1) fl (by omega) (by omega) h01
        rw [sn] at this
        exact this hfl
  exact bX10_takes (loop H.length 0 1 (by omega) (by omega) (Or.inr rfl) ⟨fun _ t ht => absurd ht List.not_mem_nil, fun _ => rfl⟩)
theorem copies_spec {I : MI} {Q : Sh → MI → MR → Prop} {f t : Nat} (h : RfS S R m) (hL : RowH I m f L) (hl : L.length ≤ 60) (hf : f < 300) (ht : t < 300) (hft : f ≠ t) (hq : ∀ I', offRow I I' m t → RowH I' m t L → Q S I' R) : CV G MX10_copies [vR m, vI (f : Int), vI (t : Int)] S I R Q := by
  have inner : ∀ (q i j : Nat) (J I1 : MI), 3 - i = q → i ≤ 3 → j < L.length → offRow I J m t → offRow J I1 m t → I1 (m + 2) = J (m + 2) → I1 (m + 3) = J (m + 3) → (∀ v, v < i → I1 (m + 4) (3 * (60 * t + j) + v) = I (m + 4) (3 * (60 * f + j) + v)) → (∀ z, (z < 3 * (60 * t + j) ∨ 3 * (60 * t + j) + 3 ≤ z) → I1 (m + 4) z = J (m + 4) z) →
      (∀ I2, offRow J I2 m t → I2 (m + 2) = J (m + 2) → I2 (m + 3) = J (m + 3) → (∀ v, v < 3 → I2 (m + 4) (3 * (60 * t + j) + v) = I (m + 4) (3 * (60 * f + j) + v)) → (∀ z, (z < 3 * (60 * t + j) ∨ 3 * (60 * t + j) + 3 ≤ z) → I2 (m + 4) z = J (m + 4) z) → LX10_copies_14 G m (f : Int) (t : Int) ((j + 1 : Nat) : Int) S I2 R Q) → LX10_copies_49 G m (f : Int) (t : Int) (j : Int) (i : Int) S I1 R Q := by
    intro q
    induction q with
    | zero =>
      intro i j J I1 hqi hi hj oJ ho c2 c3 hx hz hout
      have e : i = 3 := by omega
      rw [e] at hx
      refine bX10_copies_49 (br_t (by omega) ?_)
      rw [add1 (by omega)]
      exact hout I1 ho c2 c3 hx hz
    | succ q ih =>
      intro i j J I1 hqi hi hj oJ ho c2 c3 hx hz hout
      refine bX10_copies_49 (br_f (by omega) ⟨h.1, ?_⟩)
      rw [v10pow h hf (show j < 60 by omega) (show i < 3 by omega), h.2.1.1.2.2.2, h.2.2.1.1.2.2.2, h.2.2.2.1.2.2.2, v10at ht (show j < 60 by omega), w32_id (x := 3 * ((60 * t + j : Nat) : Int)) (by omega), w32_id (x := 3 * ((60 * t + j : Nat) : Int) + (i : Int)) (by omega), add1 (by omega), show Int.toNat (3 * ((60 * t + j : Nat) : Int) + (i : Int)) = 3 * (60 * t + j) + i by omega]
      refine ⟨p10pow h hf (by omega) (by omega), rfl, ⟨by omega, by omega⟩, fun I2 e2 => ih (i + 1) j J I2 (by omega) (by omega) hj oJ (ho.tr (offRow.u e2 (Or.inr (Or.inr ⟨rfl, by omega, by omega⟩)))) (by rw [u_n e2 (by omega)]; exact c2) (by rw [u_n e2 (by omega)]; exact c3) (fun v hv => ?_) (fun z hz2 => by rw [u_o e2 (by omega)]; exact hz z hz2) hout⟩
      by_cases hvi : v = i
      · rw [hvi, u_s e2, (oJ.tr ho).2.2.2 _ (by omega)]
      · rw [u_o e2 (by omega)]; exact hx v (by omega)
  have loop : ∀ (q j : Nat) (I1 : MI), L.length - j = q → j ≤ L.length → offRow I I1 m t → I1 (m + 2) t = (L.length : Int) → (∀ z s, L[z]? = some s → z < j → I1 (m + 3) (60 * t + z) = s.2 ∧ I1 (m + 4) (3 * (60 * t + z)) = exx s.1 ∧ I1 (m + 4) (3 * (60 * t + z) + 1) = exy s.1 ∧ I1 (m + 4) (3 * (60 * t + z) + 2) = exz s.1) → LX10_copies_14 G m (f : Int) (t : Int) (j : Int) S I1 R Q := by
    intro q
    induction q with
    | zero =>
      intro j I1 hqj hj ho hc hx
      have hL1 := hL.oR hl ho hft
      refine bX10_copies_14 ⟨h.1, ?_⟩
      rw [h.2.1.1.2.1, h.2.2.1.1.2.1, h.2.2.2.1.2.1, show Int.toNat (f : Int) = f by omega, hL1.1]
      refine ⟨rfl, ⟨by omega, by omega⟩, br_t (by omega) (hq I1 ho ⟨hc, fun z s hz => hx z s hz ?_⟩)⟩
      have := (List.getElem?_eq_some_iff.mp hz).1; omega
    | succ q ih =>
      intro j I1 hqj hj ho hc hx
      have hL1 := hL.oR hl ho hft
      have hjl : j < L.length := by omega
      refine bX10_copies_14 ⟨h.1, ?_⟩
      rw [h.2.1.1.2.1, h.2.2.1.1.2.1, h.2.2.2.1.2.1, h.2.1.1.2.2.1, h.2.2.1.1.2.2.1, h.2.2.2.1.2.2.1, show Int.toNat (f : Int) = f by omega, hL1.1, v10at hf (show j < 60 by omega), v10at ht (show j < 60 by omega), show Int.toNat ((60 * f + j : Nat) : Int) = 60 * f + j by omega, show Int.toNat ((60 * t + j : Nat) : Int) = 60 * t + j by omega]
      refine ⟨rfl, ⟨by omega, by omega⟩, br_f (by omega) ⟨rfl, ⟨by omega, by omega⟩, ⟨by omega, by omega⟩, fun J eJ => ?_⟩⟩
      have oJ : offRow I1 J m t := offRow.u eJ (Or.inr (Or.inl ⟨rfl, by omega, by omega⟩))
      have e1 := ho.tr oJ
      refine inner 3 0 j J J rfl (by omega) hjl (ho.tr oJ) offRow.rf rfl rfl (fun v hv => absurd hv (Nat.not_lt_zero _)) (fun _ _ => rfl) (fun I2 o2 k1 k2 k3 k4 => ih (j + 1) I2 (by omega) (by omega) ((ho.tr oJ).tr o2) (by rw [k1, u_n eJ (by omega)]; exact hc) (fun z s hz hzj => ?_))
      have eJ4 : J (m + 4) = I1 (m + 4) := u_n eJ (by omega)
      by_cases hzl : z < j
      · have := hx z s hz hzl
        rw [k2, u_o eJ (by omega), k4 _ (by omega), k4 _ (by omega), k4 _ (by omega), eJ4]
        exact this
      · have ez : z = j := by omega
        rw [ez] at hz ⊢
        have hs := hL.2 j s hz
        have hs1 := hL1.2 j s hz
        have kk0 : I2 (m + 4) (3 * (60 * t + j)) = I (m + 4) (3 * (60 * f + j)) := k3 0 (by omega)
        have kk1 := k3 1 (by omega)
        have kk2 := k3 2 (by omega)
        rw [k2, u_s eJ, kk0, kk1, kk2, hs1.1]
        exact ⟨rfl, hs.2⟩
  refine bX10_copies ⟨h.1, ?_⟩
  rw [h.2.1.1.2.1, h.2.2.1.1.2.1, h.2.2.2.1.2.1, show Int.toNat (f : Int) = f by omega, show Int.toNat (t : Int) = t by omega, hL.1]
  refine ⟨rfl, ⟨by omega, by omega⟩, ⟨by omega, by omega⟩, fun I1 e1 => loop L.length 0 I1 (by omega) (by omega) (offRow.u e1 (Or.inl ⟨rfl, rfl⟩)) (u_s e1) (fun z s _ hz => absurd hz (Nat.not_lt_zero _))⟩
end RR
