/-! ===== X10: inverses, ecarts, sums ===== -/
theorem exx1 : exx 262143 = 0 ∧ exy 262143 = 0 ∧ exz 262143 = 0 := by decide
theorem vk1 {n : Int} {w : Nat → Int} {b : Int} (hb : 0 ≤ b) : VK n w 262143 b := ⟨(okK1 (nv := n) (w := w)).2.2.1, (okK1 (nv := n) (w := w)).2.2.2, by rw [exx1.1]; exact hb, by rw [exx1.2.1]; exact hb, by rw [exx1.2.2]; exact hb⟩
theorem tm_id {p : Int} (hp : 0 < p) {L : List Tm} (h : Red0 p L) : L.map (tmT p 1 (262143 - 262143)) = L := by
  have : ∀ t ∈ L, tmT p 1 (262143 - 262143) t = id t := fun t ht => by
    have := h t ht
    show (t.1 + (262143 - 262143), 1 * t.2 % p) = t
    rw [Int.one_mul, Int.emod_eq_of_lt this.1 this.2, show t.1 + (262143 - 262143) = t.1 by omega]
  rw [List.map_congr_left this, List.map_id]
theorem mg_heap {p num sh : Int} (hp : 0 < p) {f g : List Tm} (hf : Can p f) (hg : Srt g) : nz (heapsL p (heapsL p [] f) (g.map (tmT p num sh))) = mg p num sh f g := by
  rw [mg_canon hp hf hg, ← heapsL_app]; rfl
theorem heaps_self {p : Int} (hp : 0 < p) {f : List Tm} (hf : Can p f) : nz (heapsL p [] f) = f := canon_id hp hf
section RO
variable {G : Gl} {S : Sh} {R : MR} {m : Nat} {n p : Int} {w : Nat → Int} {H L : List Tm}
theorem turned_spec {I : MI} {Q : Sh → MI → MR → Int → Prop} {x : Int} (h : RfS S R m) (hp : RfP I m p) (hx : 0 ≤ x ∧ x < p) (hq : Q S I R (inv p x)) : CI G MX10_turned [vR m, vI x] S I R Q := by
  have hp2 := hp.2
  have loop : ∀ (f e : Nat) (r s : Int), e < 2 ^ f → e < 40000 → 0 ≤ r ∧ r < p → 0 ≤ s ∧ s < p → Q S I R (pw p r s f e) → LX10_turned_14 G m s r (e : Int) S I R Q := by
    intro f
    induction f with
    | zero =>
      intro e r s he h4 hr hs hq
      have e0 : e = 0 := by omega
      subst e0
      refine bX10_turned_14 (br_t (by omega) ?_)
      rw [w32_id (by omega)]; exact hq
    | succ f ih =>
      intro e r s he h4 hr hs hq
      by_cases e0 : e = 0
      · subst e0
        refine bX10_turned_14 (br_t (by omega) ?_)
        rw [w32_id (by omega)]; exact hq
      · have hq2 : Q S I R (pw p (if e % 2 = 1 then r * s % p else r) (s * s % p) f (e / 2)) := by
          cases e with
          | zero => exact absurd rfl e0
          | succ e => exact hq
        have hms := mul_lt hs hs hp2.2
        have es : lrem (w64 (s * s)) p = s * s % p := by rw [w64_id (by omega), lrem_eq (by omega) (by omega) (by omega) (by omega)]
        have ss : 0 ≤ s * s % p ∧ s * s % p < p := ⟨Int.emod_nonneg _ (by omega), Int.emod_lt_of_pos _ (by omega)⟩
        have e2 : idiv (e : Int) 2 = ((e / 2 : Nat) : Int) := by rw [idiv_eq (by omega) (by omega) (by omega) (by omega)]; omega
        have hlt : e / 2 < 2 ^ f := by have : 2 ^ (f + 1) = 2 * 2 ^ f := by rw [Nat.pow_succ, Nat.mul_comm]
                                       omega
        refine bX10_turned_14 (br_f (by omega) ?_)
        rw [irem_eq (by omega) (by omega) (by omega) (by omega)]
        refine ⟨fun c => ?_, fun c => ⟨h.1, ?_⟩⟩
        · rw [if_neg (by omega)] at hq2
          refine bX10_turned_39 ⟨h.1, ?_⟩
          rw [hp.1, es, e2]
          exact ⟨by omega, ih (e / 2) r (s * s % p) hlt (by omega) hr ss hq2⟩
        · have c' := Decidable.not_not.mp c
          rw [if_pos (by omega)] at hq2
          have hmr := mul_lt hr hs hp2.2
          have er : lrem (w64 (r * s)) p = r * s % p := by rw [w64_id (by omega), lrem_eq (by omega) (by omega) (by omega) (by omega)]
          rw [hp.1, er]
          refine ⟨by omega, bX10_turned_39 ⟨h.1, ?_⟩⟩
          rw [hp.1, es, e2]
          exact ⟨by omega, ih (e / 2) _ (s * s % p) hlt (by omega) ⟨Int.emod_nonneg _ (by omega), Int.emod_lt_of_pos _ (by omega)⟩ ss hq2⟩
  refine bX10_turned ⟨h.1, ?_⟩
  rw [hp.1, w32_id (by omega)]
  have : p - 2 = (((p - 2).toNat : Nat) : Int) := by omega
  rw [this]
  exact loop 16 _ 1 x (by show _ < 65536; omega) (by omega) ⟨by omega, by omega⟩ hx hq
theorem dg_r {k : Int} (hw : wtOK w) (hk : kOK n w k) : 0 ≤ dg k ∧ dg k ≤ 756 := by
  have rk := ex_r k
  have e := dg_kOK hk
  have m0 := mul4 (x := exx k) (by omega) (hw 0 (by omega))
  have m1 := mul4 (x := exy k) (by omega) (hw 1 (by omega))
  have m2 := mul4 (x := exz k) (by omega) (hw 2 (by omega))
  omega
theorem getLast_get {L : List Tm} (hL : L ≠ []) : L.getLast? = some (L[L.length - 1]'(by have := List.length_pos_iff.mpr hL; omega)) := by
  rw [List.getLast?_eq_getElem?, List.getElem?_eq_getElem]
theorem v10low {I : MI} {r : Nat} (h : RfS S R m) (hw : RfW I m n w) (hr : r < 300) (ok : okR n w L) (hL : RowH I m r L) (h0 : L ≠ []) : pX10_low S I R m (r : Int) ∧ vX10_low I R m (r : Int) = lowL L ∧ 0 ≤ lowL L ∧ lowL L ≤ 756 := by
  have hl := List.length_pos_iff.mpr h0
  have e := v10degree h hw hr ok hL hl
  have hlow : lowL L = dg L[0].1 := by
    cases L with
    | nil => exact absurd rfl h0
    | cons t L => rfl
  have r0 := dg_r hw.2.2.2 (ok.1 L[0] (List.getElem_mem hl)).1
  refine ⟨⟨h.1, p10degree (j := 0) h hr (by omega), trivial⟩, ?_, by rw [hlow]; exact r0.1, by rw [hlow]; exact r0.2⟩
  rw [hlow]; exact e
theorem v10high {I : MI} {r : Nat} (h : RfS S R m) (hw : RfW I m n w) (hr : r < 300) (ok : okR n w L) (hL : RowH I m r L) (h0 : L ≠ []) : pX10_high S I R m (r : Int) ∧ vX10_high I R m (r : Int) = highL L ∧ 0 ≤ highL L ∧ highL L ≤ 756 := by
  have hl := List.length_pos_iff.mpr h0
  have hl60 := ok.2
  have e := v10degree h hw hr ok hL (show L.length - 1 < L.length by omega)
  have hhigh : highL L = dg (L[L.length - 1]'(by omega)).1 := by
    unfold highL
    rw [getLast_get h0]
  have r0 := dg_r hw.2.2.2 (ok.1 (L[L.length - 1]'(by omega)) (List.getElem_mem _)).1
  have ek : w32 (I (R m 4) (Int.toNat (r : Int)) - 1) = ((L.length - 1 : Nat) : Int) := by
    rw [h.2.1.1.2.1, show Int.toNat (r : Int) = r by omega, hL.1, w32_id (by omega)]; omega
  refine ⟨?_, ?_, by rw [hhigh]; exact r0.1, by rw [hhigh]; exact r0.2⟩
  · unfold pX10_high
    rw [ek, h.2.1.1.2.1, h.2.2.1.1.2.1, h.2.2.2.1.2.1]
    exact ⟨h.1, rfl, ⟨by omega, by omega⟩, p10degree h hr (by omega), trivial⟩
  · unfold vX10_high
    rw [ek, hhigh]; exact e
theorem v10ec {I : MI} {r : Nat} (h : RfS S R m) (hw : RfW I m n w) (hr : r < 300) (ok : okR n w L) (hL : RowH I m r L) (h0 : L ≠ []) : pX10_ecart S I R m (r : Int) ∧ vX10_ecart I R m (r : Int) = ecL L := by
  have a := v10low h hw hr ok hL h0
  have b := v10high h hw hr ok hL h0
  refine ⟨⟨h.1, b.1, a.1, trivial⟩, ?_⟩
  unfold vX10_ecart ecL
  rw [a.2.1, b.2.1, if_neg h0, w32_id (by omega)]
/-- f plus by times a monomial times g, onto the heap -/
theorem heaps2_spec {I : MI} {Q : Sh → MI → MR → Prop} {by_ k : Int} {r : Nat} {F : List Tm} (h : RfS S R m) (hw : RfW I m n w) (hp : RfP I m p) (hH : HpH I m (heapsL p [] F)) (hF : Can p F) (oF : okR n w F) (hL : RowH I m r L) (hr : r < 300) (ok : okR n w L) (hc : Can p L) (hby : 0 ≤ by_ ∧ by_ < p) (hk : VK n w k 33)
    (hq : ∀ I' H', offH I I' m → HpH I' m H' → H'.length ≤ 3999 → nz H' = mg p by_ (k - 262143) F L → Q S I' R) : CV G MX10_heapsRow [vR m, vI (r : Int), vI by_, vI (exx k), vI (exy k), vI (exz k)] S I R Q := by
  have hp2 := hp.2
  have l1 := heapsL_len p F []
  have l2 := heapsL_len p (L.map (tmT p by_ (k - 262143))) (heapsL p [] F)
  have hl1 := oF.2
  have hl2 := ok.2
  rw [List.length_map] at l2
  have e0 : ([] : List Tm).length = 0 := rfl
  have hI : HpI p n w (heapsL p [] F) := heapsL_I (by omega) HpI.nil (fun t ht => ⟨(oF.1 t ht).1, by have := hF.2 t ht; omega⟩)
  exact heapsRow_spec h hw hp hH hI hL hr ok (red0_of hc.2) hby hk (by omega) (fun I' o g1 _ => hq I' _ o g1 (by omega) (mg_heap (by omega) hF hc.1))
theorem heaps1_spec {I : MI} {Q : Sh → MI → MR → Prop} {r : Nat} (h : RfS S R m) (hw : RfW I m n w) (hp : RfP I m p) (h9 : I m 9 = 0) (hL : RowH I m r L) (hr : r < 300) (ok : okR n w L) (hred : Red0 p L)
    (hq : ∀ I', offH I I' m → HpH I' m (heapsL p [] L) → HpI p n w (heapsL p [] L) → Q S I' R) : CV G MX10_heapsRow [vR m, vI (r : Int), vI 1, vI 0, vI 0, vI 0] S I R Q := by
  have hp2 := hp.2
  have hl2 := ok.2
  have e := heapsRow_spec (G := G) (by_ := 1) (k := 262143) (H := []) (Q := Q) h hw hp ⟨h9, fun j t ht => by cases ht⟩ HpI.nil hL hr ok hred ⟨by omega, by omega⟩ (vk1 (by omega)) (by show 0 + L.length ≤ 3999; omega) (fun I' o g1 g2 => by
    rw [tm_id (by omega) hred] at g1 g2
    exact hq I' o g1 g2)
  rw [exx1.1, exx1.2.1, exx1.2.2] at e
  exact e
end RO
