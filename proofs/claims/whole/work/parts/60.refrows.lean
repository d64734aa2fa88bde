/-! ===== X10: rows of an ideal ===== -/
def EchR (I : MI) (m : Nat) (p : Int) (W : Nat) (U : Vc → Prop) : Prop := EchU p W (fun c => I (m + 13) c ≠ 0) (fun l c => I (m + 12) (120 * l + c)) U ∧ (∀ l, l < W → I (m + 13) l ≠ 0 → ∀ c, c < W → 0 ≤ I (m + 12) (120 * l + c) ∧ I (m + 12) (120 * l + c) < p) ∧ ∀ c, c < W → I (m + 13) c = 0 ∨ I (m + 13) c = 1
theorem EchR.o {I I' : MI} {m : Nat} {p : Int} {W : Nat} {U : Vc → Prop} (h : EchR I m p W U) (h2 : I' (m + 12) = I (m + 12)) (h3 : I' (m + 13) = I (m + 13)) : EchR I' m p W U := by
  unfold EchR
  rw [h2, h3]; exact h
theorem MonH.o {I I' : MI} {m : Nat} {M : List Int} (h : MonH I m M) (h1 : I' m 28 = I m 28) (h2 : I' (m + 11) = I (m + 11)) : MonH I' m M := by
  unfold MonH
  rw [h1, h2]; exact h
section RI
variable {G : Gl} {S : Sh} {R : MR} {m : Nat} {n : Int} {pr : Nat} {w : Nat → Int} {L : List Tm} {M : List Int} {U : Vc → Prop}
theorem v10da {I : MI} (h : RfS S R m) (hw : RfW I m n w) (hM : MonH I m M) (hk : ∀ k ∈ M, kOK n w k) (hl : M.length ≤ 165) {c : Nat} (hc : c < M.length) : pX10_degreeAt S I R m (c : Int) ∧ vX10_degreeAt I R m (c : Int) = dg (M.getD c 0) := by
  have t := hM.2 c M[c] (List.getElem?_eq_getElem hc)
  have kk := hk M[c] (List.getElem_mem hc)
  have r := ex_r M[c]
  constructor
  · unfold pX10_degreeAt
    rw [h.2.1.2.2.1.2.2.1, h.2.2.1.2.2.1.2.2.1, h.2.2.2.2.2.1.2.2.1, w32_id (x := 3 * (c : Int)) (by omega), w32_id (x := 3 * (c : Int) + 1) (by omega), w32_id (x := 3 * (c : Int) + 2) (by omega)]
    exact ⟨h.1, rfl, ⟨by omega, by omega⟩, ⟨by omega, by omega⟩, ⟨by omega, by omega⟩, p10deg h, trivial⟩
  · unfold vX10_degreeAt
    rw [h.2.1.2.2.1.2.2.1, w32_id (x := 3 * (c : Int)) (by omega), w32_id (x := 3 * (c : Int) + 1) (by omega), w32_id (x := 3 * (c : Int) + 2) (by omega), show Int.toNat (3 * (c : Int)) = 3 * c by omega, show Int.toNat (3 * (c : Int) + 1) = 3 * c + 1 by omega, show Int.toNat (3 * (c : Int) + 2) = 3 * c + 2 by omega, t.1, t.2.1, t.2.2, v10deg h hw (by omega) (by omega) (by omega) kk.2.1 kk.2.2, getDl hc]
    exact (dg_kOK kk).symm
theorem placeOf_spec {I : MI} {Q : Sh → MI → MR → Int → Prop} {k : Int} (h : RfS S R m) (hw : RfW I m n w) (hM : MonH I m M) (hinc : Inc M) (hk : ∀ k ∈ M, kOK n w k) (hl : M.length ≤ 165) (kk : kOK n w k) (hq : ∀ c, colP M k c → Q S I R c) : CI G MX10_placeOf [vR m, vI (exx k), vI (exy k), vI (exz k)] S I R Q := by
  have cmp : ∀ c (hc : c < M.length), (vX10_compares I R m (I (R m 27) (Int.toNat (w32 (3 * (c : Int))))) (I (R m 27) (Int.toNat (w32 ((w32 (3 * (c : Int))) + 1)))) (I (R m 27) (Int.toNat (w32 ((w32 (3 * (c : Int))) + 2)))) (exx k) (exy k) (exz k) < 0 ↔ M[c] < k) ∧ (vX10_compares I R m (I (R m 27) (Int.toNat (w32 (3 * (c : Int))))) (I (R m 27) (Int.toNat (w32 ((w32 (3 * (c : Int))) + 1)))) (I (R m 27) (Int.toNat (w32 ((w32 (3 * (c : Int))) + 2)))) (exx k) (exy k) (exz k) = 0 ↔ M[c] = k) := by
    intro c hc
    have t := hM.2 c M[c] (List.getElem?_eq_getElem hc)
    rw [h.2.1.2.2.1.2.2.1, w32_id (x := 3 * (c : Int)) (by omega), w32_id (x := 3 * (c : Int) + 1) (by omega), w32_id (x := 3 * (c : Int) + 2) (by omega), show Int.toNat (3 * (c : Int)) = 3 * c by omega, show Int.toNat (3 * (c : Int) + 1) = 3 * c + 1 by omega, show Int.toNat (3 * (c : Int) + 2) = 3 * c + 2 by omega, t.1, t.2.1, t.2.2]
    exact v10cmp h hw (hk _ (List.getElem_mem hc)) kk
  have idx : ∀ c, c < M.length → ((0 : Int) ≤ (w32 (3 * (c : Int))) ∧ (w32 (3 * (c : Int))) < (sL S (R m 27) : Int)) ∧ ((0 : Int) ≤ (w32 ((w32 (3 * (c : Int))) + 1)) ∧ (w32 ((w32 (3 * (c : Int))) + 1)) < (sL S (R m 27) : Int)) ∧ ((0 : Int) ≤ (w32 ((w32 (3 * (c : Int))) + 2)) ∧ (w32 ((w32 (3 * (c : Int))) + 2)) < (sL S (R m 27) : Int)) := by
    intro c hc
    rw [h.2.1.2.2.1.2.2.1, h.2.2.2.2.2.1.2.2.1, w32_id (x := 3 * (c : Int)) (by omega), w32_id (x := 3 * (c : Int) + 1) (by omega), w32_id (x := 3 * (c : Int) + 2) (by omega)]
    omega
  have e27 : sT S (R m 27) = 21 := by rw [h.2.1.2.2.1.2.2.1]; exact h.2.2.1.2.2.1.2.2.1
  have mono : ∀ {i j : Nat} (hi : i < M.length) (hj : j < M.length), i < j → M[i] < M[j] := fun {i j} hi hj hij => List.pairwise_iff_getElem.mp hinc i j hi hj hij
  have loop : ∀ (q lo hi : Nat), hi - lo = q → lo ≤ hi → hi ≤ M.length → (∀ i (h : i < M.length), i < lo → M[i] < k) → (∀ i (h : i < M.length), hi ≤ i → k ≤ M[i]) → LX10_placeOf_9 G m (exx k) (exy k) (exz k) (lo : Int) (hi : Int) S I R Q := by
    intro q
    induction q using Nat.strongRecOn with
    | _ q ih =>
      intro lo hi hqe h1 h2 hlo hhi
      refine bX10_placeOf_9 ⟨fun c => ⟨h.1, ?_⟩, fun c => ⟨h.1, ?_⟩⟩
      · rw [hM.1]
        refine ⟨fun c2 => hq _ (Or.inl ⟨rfl, fun hmem => ?_⟩), fun c2 => ?_⟩
        · obtain ⟨i, hi', e⟩ := List.mem_iff_getElem.mp hmem
          have := hlo i hi' (by omega); omega
        · have hlt : lo < M.length := by omega
          have ix := idx lo hlt
          refine ⟨e27, ix.1, ix.2.1, ix.2.2, p10cmp h, fun c3 => hq _ (Or.inr ⟨lo, ?_, rfl⟩), fun c3 => hq _ (Or.inl ⟨rfl, fun hmem => ?_⟩)⟩
          · rw [List.getElem?_eq_getElem hlt, (cmp lo hlt).2.mp c3]
          · have c4 : ¬ M[lo] = k := fun z => c3 ((cmp lo hlt).2.mpr z)
            have c5 := hhi lo hlt (by omega)
            obtain ⟨i, hi', e⟩ := List.mem_iff_getElem.mp hmem
            by_cases hil : i < lo
            · have := hlo i hi' hil; omega
            · by_cases hie : i = lo
              · subst hie; exact c4 e
              · have := mono hlt hi' (by omega); omega
      · have emid : idiv (w32 ((lo : Int) + (hi : Int))) 2 = (((lo + hi) / 2 : Nat) : Int) := by
          rw [w32_id (by omega), idiv_eq (by omega) (by omega) (by omega) (by omega)]; omega
        rw [emid]
        have hmid : (lo + hi) / 2 < M.length := by omega
        have ix := idx _ hmid
        have cm := cmp _ hmid
        refine ⟨e27, ix.1, ix.2.1, ix.2.2, p10cmp h, fun c2 => ?_, fun c2 => ?_⟩
        · refine ih ((lo + hi) / 2 - lo) (by omega) lo _ rfl (by omega) (by omega) hlo (fun i hi' hi2 => ?_)
          have c3 : ¬ M[(lo + hi) / 2] < k := fun z => by have := cm.1.mpr z; omega
          by_cases hie : i = (lo + hi) / 2
          · subst hie; omega
          · have := mono hmid hi' (by omega); omega
        · rw [add1 (by omega)]
          refine ih (hi - ((lo + hi) / 2 + 1)) (by omega) _ hi rfl (by omega) h2 (fun i hi' hi2 => ?_) hhi
          have c3 : M[(lo + hi) / 2] < k := cm.1.mp (by omega)
          by_cases hie : i = (lo + hi) / 2
          · subst hie; omega
          · have := mono hi' hmid (by omega); omega
  refine bX10_placeOf ⟨h.1, ?_⟩
  rw [hM.1]
  exact loop M.length 0 M.length (by omega) (by omega) (by omega) (fun i _ hi => by omega) (fun i h1 h2 => by omega)
theorem clearsRow_spec {I : MI} {Q : Sh → MI → MR → Prop} {W : Nat} (h : RfS S R m) (hM : I m 28 = (W : Int)) (hW : W ≤ 120) (hq : ∀ I', off1 I I' (m + 14) → (∀ c, c < W → I' (m + 14) c = 0) → Q S I' R) : CV G MX10_clearsRow [vR m] S I R Q := by
  have loop : ∀ (q c : Nat) (I1 : MI), W - c = q → c ≤ W → off1 I I1 (m + 14) → (∀ j, j < c → I1 (m + 14) j = 0) → LX10_clearsRow_2 G m (c : Int) S I1 R Q := by
    intro q
    induction q with
    | zero =>
      intro c I1 hq1 hc ho hj
      refine bX10_clearsRow_2 ⟨h.1, ?_⟩
      rw [ho m (by omega), hM]
      exact br_t (by omega) (hq I1 ho (fun j hj2 => hj j (by omega)))
    | succ q ih =>
      intro c I1 hq1 hc ho hj
      refine bX10_clearsRow_2 ⟨h.1, ?_⟩
      rw [ho m (by omega), hM, h.2.1.2.2.2.2, h.2.2.1.2.2.2.2, h.2.2.2.2.2.2.2, show Int.toNat (c : Int) = c by omega, add1 (by omega)]
      refine br_f (by omega) ⟨rfl, ⟨by omega, by omega⟩, fun I2 e2 => ih (c + 1) I2 (by omega) (by omega) (fun b hb => by rw [u_n e2 hb]; exact ho b hb) (fun j hj2 => ?_)⟩
      by_cases hjc : j = c
      · rw [hjc, u_s e2]
      · rw [u_o e2 hjc]; exact hj j (by omega)
  exact bX10_clearsRow (loop W 0 I (by omega) (by omega) (fun _ _ => rfl) (fun j hj => absurd hj (Nat.not_lt_zero _)))
theorem laysRow_spec {I : MI} {Q : Sh → MI → MR → Prop} {r : Nat} {k : Int} (h : RfS S R m) (hw : RfW I m n w) (hM : MonH I m M) (hinc : Inc M) (hk : ∀ k ∈ M, kOK n w k) (hl : M.length ≤ 120) (hL : RowH I m r L) (hr : r < 300) (ok : okR n w L) (hs : Srt L) (vk : VK n w k 33)
    (hq : ∀ I', off1 I I' (m + 14) → (∀ c, c < M.length → I' (m + 14) c = vecM M (shf k (cf L)) c) → Q S I' R) : CV G MX10_laysRow [vR m, vI (r : Int), vI (exx k), vI (exy k), vI (exz k)] S I R Q := by
  have loop : ∀ (q j : Nat) (I1 : MI), L.length - j = q → j ≤ L.length → off1 I I1 (m + 14) → (∀ c, c < M.length → I1 (m + 14) c = vecM M (shf k (cf (L.take j))) c) → LX10_laysRow_7 G m (r : Int) (exx k) (exy k) (exz k) (j : Int) S I1 R Q := by
    intro q
    induction q with
    | zero =>
      intro j I1 hq1 hj ho hx
      refine bX10_laysRow_7 ⟨h.1, ?_⟩
      rw [h.2.1.1.2.1, h.2.2.1.1.2.1, h.2.2.2.1.2.1, show Int.toNat (r : Int) = r by omega, ho (m + 2) (by omega), hL.1]
      rw [List.take_of_length_le (by omega)] at hx
      exact ⟨rfl, ⟨by omega, by omega⟩, br_t (by omega) (hq I1 ho hx)⟩
    | succ q ih =>
      intro j I1 hq1 hj ho hx
      have hjl : j < L.length := by omega
      have hj60 : j < 60 := by have := ok.2; omega
      have hL1 : RowH I1 m r L := hL.o ok.2 (by rw [ho (m + 2) (by omega)]) (fun _ _ => by rw [ho (m + 3) (by omega)]) (fun _ _ => by rw [ho (m + 4) (by omega)])
      have hw1 : RfW I1 m n w := ⟨by rw [ho m (by omega)]; exact hw.1, hw.2.1, fun i hi => by rw [ho (m + 1) (by omega)]; exact hw.2.2.1 i hi, hw.2.2.2⟩
      have hM1 : MonH I1 m M := hM.o (by rw [ho m (by omega)]) (ho _ (by omega))
      have mk := mk_row h hL1 hr ok vk hjl
      have t := hL.2 j L[j] (List.getElem?_eq_getElem hjl)
      have ct := cf_take hs hjl
      refine bX10_laysRow_7 ⟨h.1, ?_⟩
      rw [h.2.1.1.2.1, h.2.2.1.1.2.1, h.2.2.2.1.2.1, show Int.toNat (r : Int) = r by omega, ho (m + 2) (by omega), hL.1, mk.1, mk.2.1, mk.2.2.1, add1 (by omega)]
      refine ⟨rfl, ⟨by omega, by omega⟩, br_f (by omega) ⟨p10pow (v := 0) h hr hj60 (by omega), p10pow (v := 1) h hr hj60 (by omega), p10pow (v := 2) h hr hj60 (by omega), placeOf_spec h hw1 hM1 hinc hk (by omega) mk.2.2.2 (fun c hc => ?_)⟩⟩
      rcases hc with ⟨e, hnm⟩ | ⟨c0, hc0, e⟩
      · rw [e]
        refine br_t rfl (ih (j + 1) I1 (by omega) (by omega) ho (fun c hc2 => ?_))
        rw [hx c hc2]
        unfold vecM shf
        rw [ct, if_neg (fun z => hnm (by rw [show L[j].1 + (k - 262143) = M.getD c 0 by omega]; exact getDl_mem hc2))]
      · have hc0l : c0 < M.length := (List.getElem?_eq_some_iff.mp hc0).1
        have hc0e : M.getD c0 0 = L[j].1 + (k - 262143) := by rw [List.getD_eq_getElem?_getD, hc0]; rfl
        rw [e]
        refine br_f (by omega) ⟨h.1, ?_⟩
        rw [h.2.1.1.2.2.1, h.2.2.1.1.2.2.1, h.2.2.2.1.2.2.1, v10at hr hj60, show Int.toNat ((60 * r + j : Nat) : Int) = 60 * r + j by omega, h.2.1.2.2.2.2, h.2.2.1.2.2.2.2, h.2.2.2.2.2.2.2, show Int.toNat (c0 : Int) = c0 by omega]
        refine ⟨rfl, ⟨by omega, by omega⟩, rfl, ⟨by omega, by omega⟩, fun I2 e2 => ih (j + 1) I2 (by omega) (by omega) (fun b hb => by rw [u_n e2 hb]; exact ho b hb) (fun c hc2 => ?_)⟩
        by_cases hcc : c = c0
        · rw [hcc, u_s e2, ho (m + 3) (by omega), t.1]
          unfold vecM shf
          rw [ct, if_pos (by omega)]
        · rw [u_o e2 hcc, hx c hc2]
          unfold vecM shf
          rw [ct, if_neg (fun z => hcc (inc_eq hinc hc2 hc0l (by omega)))]
  refine bX10_laysRow ⟨h.1, clearsRow_spec h hM.1 hl (fun I1 o1 h1 => loop L.length 0 I1 (by omega) (by omega) o1 (fun c hc => ?_))⟩
  rw [h1 c hc]; rfl
theorem reduces_spec {I : MI} {Q : Sh → MI → MR → Prop} {W : Nat} (h : RfS S R m) (hp : RfP I m (pr : Int)) (hM : I m 28 = (W : Int)) (hW : W ≤ 120) (hE : EchR I m (pr : Int) W U) (hx : ∀ c, c < W → 0 ≤ I (m + 14) c ∧ I (m + 14) c < (pr : Int))
    (hq : ∀ I', off1 I I' (m + 14) → (∀ c, c < W → 0 ≤ I' (m + 14) c ∧ I' (m + 14) c < (pr : Int)) → U (fun j => I (m + 14) j - I' (m + 14) j) → (∀ l, l < W → I (m + 13) l ≠ 0 → I' (m + 14) l = 0) → Q S I' R) : CV G MX10_reduces [vR m] S I R Q := by
  have hp2 := hp.2
  have inner : ∀ (q k c : Nat) (J I1 : MI), W - k = q → c < W → c ≤ k → k ≤ W → I (m + 13) c ≠ 0 → off1 I J (m + 14) → off1 J I1 (m + 14) → (∀ j, j < W → 0 ≤ J (m + 14) j ∧ J (m + 14) j < (pr : Int)) → 0 < J (m + 14) c → (∀ j, (j < c ∨ k ≤ j) → I1 (m + 14) j = J (m + 14) j) → (∀ j, c ≤ j → j < k → I1 (m + 14) j = (J (m + 14) j + ((pr : Int) - J (m + 14) c) * I (m + 12) (120 * c + j)) % (pr : Int)) →
      (∀ I2, off1 J I2 (m + 14) → (∀ j, j < c → I2 (m + 14) j = J (m + 14) j) → (∀ j, c ≤ j → j < W → I2 (m + 14) j = (J (m + 14) j + ((pr : Int) - J (m + 14) c) * I (m + 12) (120 * c + j)) % (pr : Int)) → LX10_reduces_2 G m ((c + 1 : Nat) : Int) S I2 R Q) → LX10_reduces_47 G m (c : Int) ((pr : Int) - J (m + 14) c) (k : Int) S I1 R Q := by
    intro q
    induction q with
    | zero =>
      intro k c J I1 hq1 hcW hck hk hkc oJ ho hJ hpos h1 h2 hout
      refine bX10_reduces_47 ⟨h.1, ?_⟩
      rw [ho m (by omega), oJ m (by omega), hM, add1 (by omega)]
      exact br_t (by omega) (hout I1 ho (fun j hj => h1 j (Or.inl hj)) (fun j hj1 hj2 => h2 j hj1 (by omega)))
    | succ q ih =>
      intro k c J I1 hq1 hcW hck hk hkc oJ ho hJ hpos h1 h2 hout
      have hb := hE.2.1 c hcW hkc k (by omega)
      have hJk := hJ k (by omega)
      have hJc := hJ c hcW
      have hm : 0 ≤ ((pr : Int) - J (m + 14) c) * I (m + 12) (120 * c + k) ∧ ((pr : Int) - J (m + 14) c) * I (m + 12) (120 * c + k) ≤ 1072431504 := mul_lt (p := (pr : Int)) ⟨by omega, by omega⟩ hb hp2.2
      refine bX10_reduces_47 ⟨h.1, ?_⟩
      have hr1 := Int.emod_nonneg (J (m + 14) k + ((pr : Int) - J (m + 14) c) * I (m + 12) (120 * c + k)) (show (pr : Int) ≠ 0 by omega)
      have hr2 := Int.emod_lt_of_pos (J (m + 14) k + ((pr : Int) - J (m + 14) c) * I (m + 12) (120 * c + k)) (show (0 : Int) < (pr : Int) by omega)
      rw [ho m (by omega), oJ m (by omega), hM, hp.1, h.2.1.2.2.2.2, h.2.2.1.2.2.2.2, h.2.2.2.2.2.2.2, h.2.1.2.2.1.2.2.2, h.2.2.1.2.2.1.2.2.2, h.2.2.2.2.2.1.2.2.2, w32_id (x := 120 * (c : Int)) (by omega), w32_id (x := 120 * (c : Int) + (k : Int)) (by omega), show Int.toNat (k : Int) = k by omega, show Int.toNat (120 * (c : Int) + (k : Int)) = 120 * c + k by omega, h1 k (Or.inr (Nat.le_refl _)), ho (m + 12) (by omega), oJ (m + 12) (by omega), w64_id (x := ((pr : Int) - J (m + 14) c) * I (m + 12) (120 * c + k)) (by omega), w64_id (x := J (m + 14) k + ((pr : Int) - J (m + 14) c) * I (m + 12) (120 * c + k)) (by omega), lrem_eq (by omega) (by omega) (by omega) (by omega), w32_id (x := (J (m + 14) k + ((pr : Int) - J (m + 14) c) * I (m + 12) (120 * c + k)) % (pr : Int)) (by omega), add1 (n := k) (by omega)]
      refine br_f (by omega) ⟨rfl, ⟨by omega, by omega⟩, rfl, ⟨by omega, by omega⟩, by omega, fun I2 e2 => ih (k + 1) c J I2 (by omega) hcW (by omega) (by omega) hkc oJ (fun b hb2 => by rw [u_n e2 hb2]; exact ho b hb2) hJ hpos (fun j hj => by rw [u_o e2 (by omega)]; exact h1 j (by omega)) (fun j hj1 hj2 => ?_) hout⟩
      by_cases hjk : j = k
      · rw [hjk, u_s e2]
      · rw [u_o e2 hjk]; exact h2 j hj1 (by omega)
  have loop : ∀ (q c : Nat) (I1 : MI), W - c = q → c ≤ W → off1 I I1 (m + 14) → (∀ j, j < W → 0 ≤ I1 (m + 14) j ∧ I1 (m + 14) j < (pr : Int)) → U (fun j => I (m + 14) j - I1 (m + 14) j) → (∀ l, l < c → I (m + 13) l ≠ 0 → I1 (m + 14) l = 0) → LX10_reduces_2 G m (c : Int) S I1 R Q := by
    intro q
    induction q with
    | zero =>
      intro c I1 hq1 hc ho hr hU h0
      refine bX10_reduces_2 ⟨h.1, ?_⟩
      rw [ho m (by omega), hM]
      exact br_t (by omega) (hq I1 ho hr hU (fun l hl hk => h0 l (by omega) hk))
    | succ q ih =>
      intro c I1 hq1 hc ho hr hU h0
      have hcW : c < W := by omega
      have hrc := hr c hcW
      have nx : (I (m + 13) c ≠ 0 → I1 (m + 14) c = 0) → LX10_reduces_2 G m ((c + 1 : Nat) : Int) S I1 R Q := fun hz => ih (c + 1) I1 (by omega) (by omega) ho hr hU (fun l hl hk => by
        by_cases hlc : l = c
        · rw [hlc] at hk ⊢; exact hz hk
        · exact h0 l (by omega) hk)
      refine bX10_reduces_2 ⟨h.1, ?_⟩
      rw [ho m (by omega), hM, hp.1, h.2.1.2.2.2.2, h.2.2.1.2.2.2.2, h.2.2.2.2.2.2.2, h.2.1.2.2.2.1, h.2.2.1.2.2.2.1, h.2.2.2.2.2.2.1, show Int.toNat (c : Int) = c by omega, ho (m + 13) (by omega), add1 (by omega), w32_id (by omega)]
      refine br_f (by omega) ⟨rfl, ⟨by omega, by omega⟩, fun z0 => nx (fun _ => z0), fun z0 => ⟨rfl, ⟨by omega, by omega⟩, fun k0 => ?_, fun k0 => nx (fun hk => absurd hk k0)⟩⟩
      refine inner (W - c) c c I1 I1 rfl hcW (Nat.le_refl _) hc k0 ho (fun _ _ => rfl) hr (by omega) (fun _ _ => rfl) (fun j h1 h2 => by omega) (fun I2 o2 h1 h2 => ih (c + 1) I2 (by omega) (by omega) (fun b hb => (o2 b hb).trans (ho b hb)) (fun j hj => ?_) ?_ (fun l hl hk => ?_))
      · by_cases hjc : j < c
        · rw [h1 j hjc]; exact hr j hj
        · rw [h2 j (by omega) hj]
          exact ⟨Int.emod_nonneg _ (by omega), Int.emod_lt_of_pos _ (by omega)⟩
      · have hrow : U (fun j => I (m + 12) (120 * c + j)) := (hE.1.2 _).mpr (spn_in ⟨c, hcW, k0, rfl⟩)
        refine sub_step hE.1.sub hrow hU h1 h2 (fun j hj => ?_)
        have hd : (pr : Int) ∣ I (m + 12) (120 * c + j) := (hE.1.1 c hcW k0).2 j hj
        have hb := hE.2.1 c hcW k0 j (by omega)
        have := emz.mpr hd
        rw [Int.emod_eq_of_lt hb.1 hb.2] at this
        exact this
      · by_cases hlc : l = c
        · rw [hlc, h2 c (Nat.le_refl _) hcW]
          exact step_zero (hE.1.1 c hcW k0).1 ⟨1, by omega⟩
        · rw [h1 l (by omega)]; exact h0 l (by omega) hk
  exact bX10_reduces (loop W 0 I (by omega) (by omega) (fun _ _ => rfl) hx (by
    have e : (fun j => I (m + 14) j - I (m + 14) j) = fun _ => 0 := funext fun j => by omega
    rw [e]; exact hE.1.sub.1) (fun l hl => absurd hl (Nat.not_lt_zero _)))
end RI
