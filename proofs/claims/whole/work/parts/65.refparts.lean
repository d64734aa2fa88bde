/-! ===== X10: parts, terms of least degree ===== -/
theorem heapT_app {p k v : Int} {H : List Tm} (h : ∀ t ∈ H, t.1 < k) : heapT p H k v = H ++ if v = 0 then [] else [(k, v)] := by
  unfold heapT
  by_cases c : v = 0
  · rw [if_pos c, if_pos c, List.append_nil]
  · rw [if_neg c, if_neg c, ins_gap (lo := H.length) (fun t ht => h t (List.mem_of_mem_take ht)) (fun t ht => by
      have := (List.getElem?_eq_some_iff.mp ht).1; omega), List.take_length, List.drop_length]
theorem filter_low {c : Int} : ∀ {f : List Tm}, Srt f → (∀ t ∈ f, c ≤ dg t.1) → f.filter (fun t => decide (dg t.1 = c)) = f.takeWhile (fun t => decide (dg t.1 = c))
  | [], _, _ => rfl
  | a :: f, hs, h => by
    by_cases q : dg a.1 = c
    · rw [List.filter_cons, if_pos (decide_eq_true q), List.takeWhile_cons, if_pos (decide_eq_true q), filter_low hs.tail (fun t ht => h t (List.mem_cons_of_mem _ ht))]
    · have ha := h a List.mem_cons_self
      rw [List.takeWhile_cons, if_neg (by rw [decide_eq_true_eq]; exact q)]
      refine List.filter_eq_nil_iff.mpr (fun t ht => ?_)
      rw [decide_eq_true_eq]
      rcases List.mem_cons.mp ht with e | e
      · rw [e]; exact q
      · have := hs.head t e
        unfold dg at *
        omega
theorem low_filter {f : List Tm} (hs : Srt f) : f.filter (fun t => decide (dg t.1 = lowL f)) = lowT f := filter_low hs (fun _ ht => low_le hs ht)
section RP
variable {G : Gl} {S : Sh} {R : MR} {m : Nat} {n : Int} {p : Int} {w : Nat → Int} {L : List Tm}
/-- a key divided by a variable -/
theorem div_var {k : Int} {v : Nat} (hn : 1 ≤ n ∧ n ≤ 3) (hv : (v : Int) < n) (hk : kOK n w k) (he : 1 ≤ ex k (v : Int)) : kOK n w (k - vkey w (v : Int) + 262143) ∧ exx (k - vkey w (v : Int) + 262143) = exx k - (if v = 0 then 1 else 0) ∧ exy (k - vkey w (v : Int) + 262143) = exy k - (if v = 1 then 1 else 0) ∧ exz (k - vkey w (v : Int) + 262143) = exz k - (if v = 2 then 1 else 0) := by
  have vk := vk_ok (w := w) hn hv
  have e := key_sub (w := w) (x := exx k) (y := exy k) (z := exz k) (a := exx (vkey w (v : Int))) (b := exy (vkey w (v : Int))) (c := exz (vkey w (v : Int)))
  rw [← key_gk hk.1, ← key_gk vk.1.1, vk.2.1, vk.2.2.1, vk.2.2.2] at e
  have r1 := ex_r k
  have h3 : v = 0 ∨ v = 1 ∨ v = 2 := by omega
  have hb : 0 ≤ exx k - (if v = 0 then 1 else 0) ∧ 0 ≤ exy k - (if v = 1 then 1 else 0) ∧ 0 ≤ exz k - (if v = 2 then 1 else 0) ∧ exx k - (if v = 0 then 1 else 0) ≤ exx k ∧ exy k - (if v = 1 then 1 else 0) ≤ exy k ∧ exz k - (if v = 2 then 1 else 0) ≤ exz k := by
    unfold ex at he
    rcases h3 with rfl | rfl | rfl
    · rw [if_pos (by omega)] at he
      rw [if_pos rfl, if_neg (by decide), if_neg (by decide)]; omega
    · rw [if_neg (by omega), if_pos (by omega)] at he
      rw [if_neg (by decide), if_pos rfl, if_neg (by decide)]; omega
    · rw [if_neg (by omega), if_neg (by omega)] at he
      rw [if_neg (by decide), if_neg (by decide), if_pos rfl]; omega
  rw [e]
  have hx1 : exx (key w (exx k - (if v = 0 then 1 else 0)) (exy k - (if v = 1 then 1 else 0)) (exz k - (if v = 2 then 1 else 0))) = exx k - (if v = 0 then 1 else 0) := exx_pk (by omega) (by omega) (by omega)
  have hy1 : exy (key w (exx k - (if v = 0 then 1 else 0)) (exy k - (if v = 1 then 1 else 0)) (exz k - (if v = 2 then 1 else 0))) = exy k - (if v = 1 then 1 else 0) := exy_pk (by omega) (by omega) (by omega)
  have hz1 : exz (key w (exx k - (if v = 0 then 1 else 0)) (exy k - (if v = 1 then 1 else 0)) (exz k - (if v = 2 then 1 else 0))) = exz k - (if v = 2 then 1 else 0) := exz_pk (by omega) (by omega) (by omega)
  refine ⟨⟨gk_key (by omega) (by omega) (by omega), fun q => ?_, fun q => ?_⟩, hx1, hy1, hz1⟩
  · rw [hy1]; have := hk.2.1 q; omega
  · rw [hz1]; have := hk.2.2 q; omega
theorem derL_snoc {v : Int} {j : Nat} (hj : j < L.length) : derL p w v (L.take (j + 1)) = derL p w v (L.take j) ++ (if L[j].2 * ex L[j].1 v % p = 0 then [] else [(L[j].1 - vkey w v + 262143, L[j].2 * ex L[j].1 v % p)]) := by
  rw [take_succ_get hj]
  unfold derL
  rw [List.filterMap_append]
  congr 1
  rw [List.filterMap_cons, List.filterMap_nil]
  unfold derT
  by_cases c : L[j].2 * ex L[j].1 v % p = 0
  · rw [if_pos c, if_pos c]
  · rw [if_neg c, if_neg c]
theorem derL_mem {v : Int} {f : List Tm} {t : Tm} (h : t ∈ derL p w v f) : ∃ s ∈ f, t.1 = s.1 - vkey w v + 262143 ∧ 1 ≤ ex s.1 v ∧ t.2 = s.2 * ex s.1 v % p ∧ t.2 ≠ 0 := by
  obtain ⟨s, hs, e⟩ := List.mem_filterMap.mp h
  unfold derT at e
  by_cases c : s.2 * ex s.1 v % p = 0
  · rw [if_pos c] at e; cases e
  · rw [if_neg c] at e
    have e2 := Option.some.inj e
    refine ⟨s, hs, by rw [← e2], ?_, by rw [← e2], by rw [← e2]; exact c⟩
    have r := ex_lt s.1 v
    refine Decidable.byContradiction (fun z => c ?_)
    rw [show ex s.1 v = 0 by omega, Int.mul_zero]; exact Int.zero_emod p
theorem derL_take {v : Int} {j : Nat} (hs : Srt L) (hj : j < L.length) : ∀ t ∈ derL p w v (L.take j), t.1 < L[j].1 - vkey w v + 262143 := by
  intro t ht
  obtain ⟨s, hs2, e, -⟩ := derL_mem ht
  obtain ⟨i, hi, e2⟩ := List.mem_iff_getElem.mp hs2
  rw [List.length_take] at hi
  rw [List.getElem_take] at e2
  have := List.pairwise_iff_getElem.mp hs i j (by omega) hj (by omega)
  rw [e2] at this
  omega
theorem derL_ok {v : Nat} (hp : 2 ≤ p) (hw : wtOK w) (hn : 1 ≤ n ∧ n ≤ 3) (hv : (v : Int) < n) (h : okQ p n w L) : okQ p n w (derL p w (v : Int) L) := by
  have srt : ∀ j, j ≤ L.length → Srt (derL p w (v : Int) (L.take j)) := by
    intro j
    induction j with
    | zero => intro _; exact List.Pairwise.nil
    | succ j ih =>
      intro hj
      rw [derL_snoc (by omega)]
      by_cases c : (L[j]'(by omega)).2 * ex (L[j]'(by omega)).1 (v : Int) % p = 0
      · rw [if_pos c, List.append_nil]; exact ih (by omega)
      · rw [if_neg c]
        refine List.pairwise_append.mpr ⟨ih (by omega), List.pairwise_singleton _ _, fun a ha b hb => ?_⟩
        rw [List.mem_singleton.mp hb]
        exact derL_take h.1.1 (by omega) a ha
  refine ⟨⟨?_, fun t ht => ?_⟩, fun t ht => ?_, ?_⟩
  · have := srt L.length (Nat.le_refl _)
    rw [List.take_length] at this; exact this
  · obtain ⟨s, hs, e, e1, e2, e3⟩ := derL_mem ht
    have := Int.emod_nonneg (s.2 * ex s.1 (v : Int)) (show p ≠ 0 by omega)
    have := Int.emod_lt_of_pos (s.2 * ex s.1 (v : Int)) (show 0 < p by omega)
    omega
  · obtain ⟨s, hs, e, e1, e2, e3⟩ := derL_mem ht
    have k := h.2.1 s hs
    have d := der_ok hw k.2.2.1 k.2.1 (v := (v : Int)) (by omega) (by omega)
    have d2 := div_var (w := w) hn hv ⟨k.2.2.1, k.2.2.2⟩ e1
    rw [e]
    exact ⟨d.1, d.2.1, d2.1.1, d2.1.2⟩
  · have h1 : (derL p w (v : Int) L).length ≤ L.length := List.length_filterMap_le _ _
    have := h.2.2
    omega
theorem lowT_ok (h : okQ p n w L) : okQ p n w (lowT L) := by
  have sub : List.Sublist (lowT L) L := List.takeWhile_sublist _
  refine ⟨⟨h.1.1.sublist sub, fun t ht => h.1.2 t (sub.subset ht)⟩, fun t ht => h.2.1 t (sub.subset ht), ?_⟩
  have := sub.length_le
  have := h.2.2
  omega
theorem heapsPart_spec {I : MI} {Q : Sh → MI → MR → Prop} {r v : Nat} (h : RfS S R m) (hw : RfW I m n w) (hp : RfP I m p) (hL : RowH I m r L) (hr : r < 300) (ok : okQ p n w L) (hv : (v : Int) < n)
    (hq : ∀ I', offH I I' m → HpH I' m (derL p w (v : Int) L) → Q S I' R) : CV G MX10_heapsPart [vR m, vI (r : Int), vI (v : Int)] S I R Q := by
  have hp2 := hp.2
  have hn := hw.2.1
  have loop : ∀ (q j : Nat) (I1 : MI), L.length - j = q → j ≤ L.length → offH I I1 m → HpH I1 m (derL p w (v : Int) (L.take j)) → LX10_heapsPart_7 G m (r : Int) (v : Int) (j : Int) S I1 R Q := by
    intro q
    induction q with
    | zero =>
      intro j I1 hq1 hj ho hH
      refine bX10_heapsPart_7 ⟨h.1, ?_⟩
      rw [h.2.1.1.2.1, h.2.2.1.1.2.1, h.2.2.2.1.2.1, show Int.toNat (r : Int) = r by omega, (hL.oH ho).1]
      rw [List.take_of_length_le (by omega)] at hH
      exact ⟨rfl, ⟨by omega, by omega⟩, br_t (by omega) (hq I1 ho hH)⟩
    | succ q ih =>
      intro j I1 hq1 hj ho hH
      have hjl : j < L.length := by omega
      have hj60 : j < 60 := by have := ok.2.2; omega
      have hL1 := hL.oH ho
      have t := hL1.2 j L[j] (List.getElem?_eq_getElem hjl)
      have pw3 := hL1.pow h hr ok.2.2 hjl
      have rd := ok.1.2 L[j] (List.getElem_mem hjl)
      have kk := ok.2.1 L[j] (List.getElem_mem hjl)
      have er := kk.r
      have ev : vX10_power I1 R m (r : Int) (j : Int) (v : Int) = ex L[j].1 (v : Int) := by
        unfold ex
        have h3 : v = 0 ∨ v = 1 ∨ v = 2 := by omega
        rcases h3 with rfl | rfl | rfl
        · rw [if_pos (by omega)]; exact pw3.1
        · rw [if_neg (by omega), if_pos (by omega)]; exact pw3.2.1
        · rw [if_neg (by omega), if_neg (by omega)]; exact pw3.2.2
      have exl : 0 ≤ ex L[j].1 (v : Int) ∧ ex L[j].1 (v : Int) ≤ 30 := by
        unfold ex
        by_cases c0 : (v : Int) = 0
        · rw [if_pos c0]; omega
        · rw [if_neg c0]
          by_cases c1 : (v : Int) = 1
          · rw [if_pos c1]; omega
          · rw [if_neg c1]; omega
      have sn := derL_snoc (p := p) (w := w) (v := (v : Int)) hjl
      refine bX10_heapsPart_7 ⟨h.1, ?_⟩
      rw [h.2.1.1.2.1, h.2.2.1.1.2.1, h.2.2.2.1.2.1, h.2.1.1.2.2.1, h.2.2.1.1.2.2.1, h.2.2.2.1.2.2.1, show Int.toNat (r : Int) = r by omega, hL1.1, v10at hr hj60, show Int.toNat ((60 * r + j : Nat) : Int) = 60 * r + j by omega, t.1, ev, ho.2 2 (by omega), hp.1, add1 (by omega), pw3.1]
      refine ⟨rfl, ⟨by omega, by omega⟩, br_f (by omega) ⟨p10pow h hr hj60 (by omega), fun e0 => ?_, fun e0 => ⟨rfl, ⟨by omega, by omega⟩, by omega, p10pow (v := 0) h hr hj60 (by omega), ?_⟩⟩⟩
      · rw [if_pos (by rw [show ex L[j].1 (v : Int) = 0 by omega, Int.mul_zero]; exact Int.zero_emod p), List.append_nil] at sn
        exact ih (j + 1) I1 (by omega) (by omega) ho (by rw [sn]; exact hH)
      · have dv := div_var (w := w) hn hv ⟨kk.2.2.1, kk.2.2.2⟩ (show 1 ≤ ex L[j].1 (v : Int) by omega)
        have num : w32 (lrem (w64 (L[j].2 * ex L[j].1 (v : Int))) p) = L[j].2 * ex L[j].1 (v : Int) % p := by
          have m1 : 0 ≤ L[j].2 * ex L[j].1 (v : Int) := Int.mul_nonneg (by omega) (by omega)
          have m2 : L[j].2 * ex L[j].1 (v : Int) ≤ 32749 * 30 := by
            have a1 : L[j].2 * ex L[j].1 (v : Int) ≤ 32749 * ex L[j].1 (v : Int) := Int.mul_le_mul_of_nonneg_right (by omega) (by omega)
            omega
          have e1 := Int.emod_nonneg (L[j].2 * ex L[j].1 (v : Int)) (show p ≠ 0 by omega)
          have e2 := Int.emod_lt_of_pos (L[j].2 * ex L[j].1 (v : Int)) (show 0 < p by omega)
          rw [w64_id (by omega), lrem_eq (by omega) (by omega) (by omega) (by omega), w32_id (by omega)]
        rw [num]
        have e1 := Int.emod_nonneg (L[j].2 * ex L[j].1 (v : Int)) (show p ≠ 0 by omega)
        have e2 := Int.emod_lt_of_pos (L[j].2 * ex L[j].1 (v : Int)) (show 0 < p by omega)
        have okT : okQ p n w (L.take j) := ⟨⟨ok.1.1.sublist (List.take_sublist j L), fun t ht => ok.1.2 t (List.mem_of_mem_take ht)⟩, fun t ht => ok.2.1 t (List.mem_of_mem_take ht), by rw [List.length_take]; have := ok.2.2; omega⟩
        have okD := derL_ok (v := v) hp2.1 hw.2.2.2 hn hv okT
        have hH2 : HpH I1 m (derL p w (v : Int) (L.take j)) := hH
        have go : CV G MX10_heaps [vR m, vI (L[j].2 * ex L[j].1 (v : Int) % p), vI (exx (L[j].1 - vkey w (v : Int) + 262143)), vI (exy (L[j].1 - vkey w (v : Int) + 262143)), vI (exz (L[j].1 - vkey w (v : Int) + 262143))] S I1 R (fun S108 I108 R108 => LX10_heapsPart_7 G m (r : Int) (v : Int) ((j + 1 : Nat) : Int) S108 I108 R108 Q) := by
          refine heaps_spec h (hw.oH ho) (hp.oH ho) hH2 okD.1.1 (red0_of okD.1.2) (fun t ht => ⟨(okD.2.1 t ht).2.2.1, (okD.2.1 t ht).2.2.2⟩) (by have := okD.2.2; omega) dv.1 ⟨e1, e2⟩ (fun I2 o2 g2 => ih (j + 1) I2 (by omega) (by omega) (ho.tr o2) ?_)
          rw [heapT_app (derL_take ok.1.1 hjl), ← sn] at g2
          exact g2
        rw [dv.2.1, dv.2.2.1, dv.2.2.2] at go
        have h3 : v = 0 ∨ v = 1 ∨ v = 2 := by omega
        rcases h3 with rfl | rfl | rfl
        · rw [if_pos rfl, if_neg (by decide), if_neg (by decide)] at go
          refine br_f (by omega) (bX10_heapsPart_71 ⟨h.1, p10pow (v := 1) h hr hj60 (by omega), br_t (by decide) (bX10_heapsPart_89 ⟨h.1, p10pow (v := 2) h hr hj60 (by omega), br_t (by decide) ⟨h.1, ?_⟩⟩)⟩)
          rw [pw3.2.1, pw3.2.2, w32_id (by omega), w32_id (by omega), w32_id (by omega), add1 (by omega)]
          exact go
        · rw [if_neg (by decide), if_pos rfl, if_neg (by decide)] at go
          refine br_t (by decide) (bX10_heapsPart_71 ⟨h.1, p10pow (v := 1) h hr hj60 (by omega), br_f (by decide) (bX10_heapsPart_89 ⟨h.1, p10pow (v := 2) h hr hj60 (by omega), br_t (by decide) ⟨h.1, ?_⟩⟩)⟩)
          rw [pw3.2.1, pw3.2.2, w32_id (by omega), w32_id (by omega), w32_id (by omega), add1 (by omega)]
          exact go
        · rw [if_neg (by decide), if_neg (by decide), if_pos rfl] at go
          refine br_t (by decide) (bX10_heapsPart_71 ⟨h.1, p10pow (v := 1) h hr hj60 (by omega), br_t (by decide) (bX10_heapsPart_89 ⟨h.1, p10pow (v := 2) h hr hj60 (by omega), br_f (by decide) ⟨h.1, ?_⟩⟩)⟩)
          rw [pw3.2.1, pw3.2.2, w32_id (by omega), w32_id (by omega), w32_id (by omega), add1 (by omega)]
          exact go
  exact bX10_heapsPart ⟨h.1, fun I2 e2 => loop L.length 0 I2 (by omega) (by omega) (offH.u e2 (Or.inr (Or.inr ⟨rfl, rfl⟩))) ⟨u_s e2, fun j t ht => by cases ht⟩⟩
theorem heapsLow_spec {I : MI} {Q : Sh → MI → MR → Prop} {r : Nat} (h : RfS S R m) (hw : RfW I m n w) (hp : RfP I m p) (hL : RowH I m r L) (hr : r < 300) (ok : okQ p n w L)
    (hq : ∀ I', offH I I' m → HpH I' m (lowT L) → Q S I' R) : CV G MX10_heapsLow [vR m, vI (r : Int)] S I R Q := by
  have hp2 := hp.2
  have loop : ∀ (q j : Nat) (I1 : MI), L.length - j = q → j ≤ L.length → offH I I1 m → HpH I1 m ((L.take j).filter (fun t => decide (dg t.1 = lowL L))) → LX10_heapsLow_7 G m (r : Int) (j : Int) S I1 R Q := by
    intro q
    induction q with
    | zero =>
      intro j I1 hq1 hj ho hH
      refine bX10_heapsLow_7 ⟨h.1, ?_⟩
      rw [h.2.1.1.2.1, h.2.2.1.1.2.1, h.2.2.2.1.2.1, show Int.toNat (r : Int) = r by omega, (hL.oH ho).1]
      rw [List.take_of_length_le (by omega), low_filter ok.1.1] at hH
      exact ⟨rfl, ⟨by omega, by omega⟩, br_t (by omega) (hq I1 ho hH)⟩
    | succ q ih =>
      intro j I1 hq1 hj ho hH
      have hjl : j < L.length := by omega
      have hj60 : j < 60 := by have := ok.2.2; omega
      have hL1 := hL.oH ho
      have hw1 := hw.oH ho
      have t := hL1.2 j L[j] (List.getElem?_eq_getElem hjl)
      have pw3 := hL1.pow h hr ok.2.2 hjl
      have rd := ok.1.2 L[j] (List.getElem_mem hjl)
      have kk := ok.2.1 L[j] (List.getElem_mem hjl)
      have hn0 : L ≠ [] := fun q => by rw [q] at hjl; exact absurd hjl (Nat.not_lt_zero _)
      have dd := v10degree h hw1 hr ok.toR hL1 hjl
      have dl := v10low h hw1 hr ok.toR hL1 hn0
      have sn : (L.take (j + 1)).filter (fun t => decide (dg t.1 = lowL L)) = (L.take j).filter (fun t => decide (dg t.1 = lowL L)) ++ if dg L[j].1 = lowL L then [L[j]] else [] := by
        rw [take_succ_get hjl, List.filter_append]
        congr 1
        by_cases c : dg L[j].1 = lowL L
        · rw [if_pos c, List.filter_cons, if_pos (decide_eq_true c)]; rfl
        · rw [if_neg c, List.filter_cons, if_neg (by rw [decide_eq_true_eq]; exact c)]; rfl
      refine bX10_heapsLow_7 ⟨h.1, ?_⟩
      rw [h.2.1.1.2.1, h.2.2.1.1.2.1, h.2.2.2.1.2.1, h.2.1.1.2.2.1, h.2.2.1.1.2.2.1, h.2.2.2.1.2.2.1, show Int.toNat (r : Int) = r by omega, hL1.1, v10at hr hj60, show Int.toNat ((60 * r + j : Nat) : Int) = 60 * r + j by omega, t.1, add1 (by omega), pw3.1, pw3.2.1, pw3.2.2, dd, dl.2.1]
      refine ⟨rfl, ⟨by omega, by omega⟩, br_f (by omega) ⟨p10degree h hr hj60, dl.1, fun c => ?_, fun c => ⟨rfl, ⟨by omega, by omega⟩, p10pow (v := 0) h hr hj60 (by omega), p10pow (v := 1) h hr hj60 (by omega), p10pow (v := 2) h hr hj60 (by omega), ?_⟩⟩⟩
      · rw [if_neg c, List.append_nil] at sn
        exact ih (j + 1) I1 (by omega) (by omega) ho (by rw [sn]; exact hH)
      · rw [if_pos (Decidable.not_not.mp c)] at sn
        have sub : List.Sublist ((L.take j).filter (fun t => decide (dg t.1 = lowL L))) L := List.filter_sublist.trans (List.take_sublist j L)
        refine heaps_spec h hw1 (hp.oH ho) hH (ok.1.1.sublist sub) (fun t ht => by have := ok.1.2 t (sub.subset ht); omega) (fun t ht => ⟨(ok.2.1 t (sub.subset ht)).2.2.1, (ok.2.1 t (sub.subset ht)).2.2.2⟩) (by have := sub.length_le; have := ok.2.2; omega) ⟨kk.2.2.1, kk.2.2.2⟩ ⟨by omega, rd.2⟩ (fun I2 o2 g2 => ih (j + 1) I2 (by omega) (by omega) (ho.tr o2) ?_)
        rw [heapT_app (fun a ha => ?_), if_neg (show ¬ L[j].2 = 0 by omega)] at g2
        · rw [sn]; exact g2
        · obtain ⟨i, hi, e⟩ := List.mem_iff_getElem.mp (List.mem_filter.mp ha).1
          rw [List.length_take] at hi
          rw [List.getElem_take] at e
          have := List.pairwise_iff_getElem.mp ok.1.1 i j (by omega) hjl (by omega)
          rw [e] at this; exact this
  exact bX10_heapsLow ⟨h.1, fun I2 e2 => loop L.length 0 I2 (by omega) (by omega) (offH.u e2 (Or.inr (Or.inr ⟨rfl, rfl⟩))) ⟨u_s e2, fun j t ht => by cases ht⟩⟩
end RP
