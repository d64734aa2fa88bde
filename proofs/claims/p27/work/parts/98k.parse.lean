/-! ===== a drawn text is read without a fault ===== -/
section PS
variable {b : Nat → Int} {n : Nat} {p nv : Int} {w : Nat → Int} {Lt : List Int}
def AtT (Lt : List Int) (s : Nat) (r : List Int) : Prop := ∃ pre, Lt = pre ++ r ∧ pre.length = s
theorem AtT.cons {s : Nat} {x : Int} {r : List Int} (h : AtT Lt s (x :: r)) : s < Lt.length ∧ Lt[s]? = some x ∧ AtT Lt (s + 1) r := by
  obtain ⟨pre, e, hl⟩ := h
  refine ⟨by rw [e, List.length_append, List.length_cons]; omega, ?_, pre ++ [x], by rw [e, List.append_assoc]; rfl, by rw [List.length_append]; show pre.length + 1 = _; omega⟩
  rw [e, List.getElem?_append_right (by omega), hl, Nat.sub_self]
  rfl
theorem AtT.nil {s : Nat} (h : AtT Lt s []) : s = Lt.length := by
  obtain ⟨pre, e, hl⟩ := h
  rw [e, List.append_nil, hl]
theorem AtT.len {s : Nat} {r : List Int} (h : AtT Lt s r) : s + r.length = Lt.length := by
  obtain ⟨pre, e, hl⟩ := h
  rw [e, List.length_append, hl]
def BytT (b : Nat → Int) (n : Nat) (Lt : List Int) : Prop := n = Lt.length ∧ (∀ q x, Lt[q]? = some x → b q = x) ∧ ∀ x ∈ Lt, x ≠ 32
theorem BytT.at (hb : BytT b n Lt) {s : Nat} {x : Int} {r : List Int} (h : AtT Lt s (x :: r)) : s < n ∧ b s = x ∧ AtT Lt (s + 1) r := by
  obtain ⟨h1, h2, h3⟩ := h.cons
  exact ⟨by rw [hb.1]; exact h1, hb.2.1 s x h2, h3⟩
theorem BytT.sk (hb : BytT b n Lt) (s : Nat) : sk b n s = s := sk_n (fun ⟨h1, h2⟩ => by
  have h3 : s < Lt.length := by rw [← hb.1]; exact h1
  have := hb.2.1 s Lt[s] (List.getElem?_eq_getElem h3)
  exact hb.2.2 _ (List.getElem_mem h3) (by rw [← this, h2]))
/-- no digit comes next -/
def NoDg (r : List Int) : Prop := ∀ x r', r = x :: r' → ¬ isDg x
/-- a sign, or the end -/
def StpT (r : List Int) : Prop := r = [] ∨ (∃ q, r = 43 :: q) ∨ ∃ q, r = 45 :: q
theorem StpT.nd {r : List Int} (h : StpT r) : NoDg r := by
  intro x r' e
  rcases h with h | ⟨q, h⟩ | ⟨q, h⟩ <;> rw [h] at e
  · cases e
  · cases e; unfold isDg; omega
  · cases e; unfold isDg; omega
theorem pX_nd {v e : Int} {r : List Int} (hv : 57 < v) (h : NoDg r) : NoDg (pX v e ++ r) := by
  unfold pX
  by_cases q : e ≤ 0
  · rw [if_pos q]; exact h
  · rw [if_neg q]
    intro x r' e2
    cases e2
    unfold isDg; omega
theorem dgs1 (hb : BytT b n Lt) {s most : Nat} {x : Int} {r : List Int} (h : AtT Lt s (x :: r)) (hd : isDg x) (hr : NoDg r) (hm : 1 ≤ most) : dgs b n most s = (s + 1, x - 48) := by
  obtain ⟨h1, h2, h3⟩ := hb.at h
  have h4 := h3.len
  have hd1 : 48 ≤ x ∧ x ≤ 57 := hd
  unfold dgs
  rw [show n - s = (n - s - 1) + 1 by omega, rdF, h2, if_pos ⟨h1, hd1⟩, if_pos (show 0 < most by omega), show 10 * (0 : Int) + x - 48 = x - 48 by omega]
  cases hk : n - s - 1 with
  | zero => rfl
  | succ k =>
    cases r with
    | nil => rw [List.length_nil, ← hb.1] at h4; omega
    | cons y r' =>
      have h5 := (hb.at h3).2.1
      rw [rdF, h5, if_neg (fun q => hr y r' rfl q.2)]
theorem facs_stop {K s : Nat} {num : Int} {e : Nat → Int} {r : List Int} (hb : BytT b n Lt) (h : AtT Lt s r) (hr : StpT r) : facs b n p nv K s num e = Sum.inr (s, num, e) := by
  have hf : ¬ isF b n nv s := fun ⟨h1, h2⟩ => by
    have hl := h.len
    rw [← hb.1] at hl
    rcases hr with e1 | ⟨q, e1⟩ | ⟨q, e1⟩ <;> rw [e1] at h hl
    · rw [List.length_nil] at hl; omega
    · rw [(hb.at h).2.1] at h2; unfold isDg at h2; omega
    · rw [(hb.at h).2.1] at h2; unfold isDg at h2; omega
  cases K with
  | zero => rfl
  | succ k => rw [facs, if_neg hf]
theorem facs_num {K s : Nat} {num : Int} {e : Nat → Int} {c : Int} {r : List Int} (hb : BytT b n Lt) (h : AtT Lt s ((48 + c) :: r)) (hc : 1 ≤ c ∧ c ≤ 9) (hr : NoDg r) : ∃ num', facs b n p nv (K + 1) s num e = facs b n p nv K (s + 1) num' e := by
  obtain ⟨h1, h2, h3⟩ := hb.at h
  have hd : isDg (48 + c) := by unfold isDg; omega
  have dg := dgs1 (most := 5) hb h hd hr (by omega)
  refine ⟨num * ((48 + c - 48) % p) % p, ?_⟩
  have hf : fac b n p s num e = Sum.inr (s + 1, num * ((48 + c - 48) % p) % p, e) := by
    unfold fac
    rw [h2, if_pos hd, dg, if_neg (by show ¬ 5 < s + 1 - s; omega), hb.sk]
  rw [facs, if_pos ⟨h1, Or.inl (by rw [h2]; exact hd)⟩, hf]
theorem facs_var {K s v : Nat} {num y : Int} {e : Nat → Int} {r : List Int} (hb : BytT b n Lt) (h : AtT Lt s (pX (120 + (v : Int)) y ++ r)) (hv : v < 3) (hy : 0 ≤ y ∧ y ≤ 5) (hn : 0 < y → (v : Int) < nv) (he : e v = 0) (hr : NoDg r) (hK : n ≤ s + K) :
    ∃ (K' : Nat) (e' : Nat → Int), n ≤ s + (pX (120 + (v : Int)) y).length + K' ∧ (∀ j, j ≠ v → e' j = e j) ∧ AtT Lt (s + (pX (120 + (v : Int)) y).length) r ∧ facs b n p nv K s num e = facs b n p nv K' (s + (pX (120 + (v : Int)) y).length) num e' := by
  by_cases q : y ≤ 0
  · have ep : pX (120 + (v : Int)) y = [] := if_pos q
    rw [ep] at h ⊢
    exact ⟨K, e, by rw [List.length_nil]; omega, fun _ _ => rfl, h, rfl⟩
  · have ep : pX (120 + (v : Int)) y = [120 + (v : Int), 94, 48 + y] := if_neg q
    rw [ep] at h ⊢
    obtain ⟨a1, a2, a3⟩ := hb.at h
    obtain ⟨b1, b2, b3⟩ := hb.at a3
    obtain ⟨c1, c2, c3⟩ := hb.at b3
    have hd : isDg (48 + y) := by unfold isDg; omega
    have dg := dgs1 (most := 2) hb b3 hd hr (by omega)
    obtain ⟨K, rfl⟩ : ∃ k, K = k + 1 := ⟨K - 1, by omega⟩
    refine ⟨K, upE e v (e v + (48 + y - 48)), by show n ≤ s + 3 + K; omega, fun j hj => upE_n hj, c3, ?_⟩
    have nd : ¬ isDg (b s) := by rw [a2]; unfold isDg; omega
    have hf : fac b n p s num e = Sum.inr (s + 1 + 1 + 1, num, upE e v (e v + (48 + y - 48))) := by
      unfold fac
      rw [if_neg nd, hb.sk, see_at b1, b2, if_pos rfl, hb.sk, dg]
      rw [if_neg (by show ¬ (s + 1 + 1 + 1 = s + 1 + 1 ∨ 2 < s + 1 + 1 + 1 - (s + 1 + 1)); omega), hb.sk, a2, show ((120 : Int) + (v : Int) - 120).toNat = v by omega]
      unfold addE
      rw [if_neg (by show ¬ 30 < e v + (48 + y - 48); rw [he]; omega)]
    rw [facs, if_pos ⟨a1, Or.inr (by rw [a2]; have := hn (by omega); omega)⟩, hf]
    rfl
/-- a term is read -/
theorem smd_tm {s : Nat} {minus : Bool} {c a bb d : Int} {r : List Int} (hb : BytT b n Lt) (h : AtT Lt s ([48 + c] ++ (pX 120 a ++ (pX 121 bb ++ (pX 122 d ++ r))))) (hc : 1 ≤ c ∧ c ≤ 9) (ha : 0 ≤ a ∧ a ≤ 5) (hbb : 0 ≤ bb ∧ bb ≤ 5) (hd : 0 ≤ d ∧ d ≤ 5) (hnv : 1 ≤ nv) (n1 : nv = 1 → bb = 0) (n3 : nv < 3 → d = 0) (hr : StpT r) :
    ∃ T, smd b n p nv w minus s = Sum.inr (s + 1 + (pX 120 a).length + (pX 121 bb).length + (pX 122 d).length, T) := by
  have d3 := pX_nd (v := 122) (e := d) (by omega) hr.nd
  have d2 := pX_nd (v := 121) (e := bb) (by omega) d3
  have d1 := pX_nd (v := 120) (e := a) (by omega) d2
  obtain ⟨h1, h2, h3⟩ := hb.at h
  obtain ⟨num', e1⟩ := facs_num (p := p) (nv := nv) (K := n - 1) (num := 1) (e := fun _ => 0) hb h hc d1
  rw [show n - 1 + 1 = n by omega] at e1
  obtain ⟨K1, x1, k1, y1, t1, f1⟩ := facs_var (p := p) (nv := nv) (K := n - 1) (v := 0) (num := num') (e := fun _ => 0) hb h3 (by omega) ha (fun _ => by omega) rfl d2 (by omega)
  have g1 : 0 < bb → ((1 : Nat) : Int) < nv := fun q => by
    have : nv ≠ 1 := fun e => by have := n1 e; omega
    omega
  obtain ⟨K2, x2, k2, y2, t2, f2⟩ := facs_var (p := p) (nv := nv) (K := K1) (v := 1) (num := num') (e := x1) hb t1 (by omega) hbb g1 (by rw [y1 1 (by omega)]) d3 k1
  have g2 : 0 < d → ((2 : Nat) : Int) < nv := fun q => by
    have : ¬ nv < 3 := fun e => by have := n3 e; omega
    omega
  obtain ⟨K3, x3, k3, y3, t3, f3⟩ := facs_var (p := p) (nv := nv) (K := K2) (v := 2) (num := num') (e := x2) hb t2 (by omega) hd g2 (by rw [y2 2 (by omega), y1 2 (by omega)]) hr.nd k2
  have f4 := facs_stop (p := p) (nv := nv) (K := K3) (num := num') (e := x3) hb t3 hr
  have fa := e1.trans (f1.trans (f2.trans (f3.trans f4)))
  unfold smd
  rw [if_pos ⟨h1, Or.inl (by rw [h2]; unfold isDg; omega)⟩, fa]
  exact ⟨_, rfl⟩
/-- what comes behind a term -/
def rdC (b : Nat → Int) (n : Nat) (p nv : Int) (w : Nat → Int) (K s : Nat) (raw : List Tm) : List Int → Fl ⊕ List Tm
  | [] => Sum.inr raw
  | x :: _ => if x = 43 then rdL b n p nv w K (s + 1) false raw else rdL b n p nv w K (s + 1) true raw
theorem rdL_step {K s : Nat} {minus : Bool} {raw : List Tm} {c a bb d : Int} {r : List Int} (hb : BytT b n Lt) (h : AtT Lt s ([48 + c] ++ (pX 120 a ++ (pX 121 bb ++ (pX 122 d ++ r))))) (hc : 1 ≤ c ∧ c ≤ 9) (ha : 0 ≤ a ∧ a ≤ 5) (hbb : 0 ≤ bb ∧ bb ≤ 5) (hd : 0 ≤ d ∧ d ≤ 5) (hnv : 1 ≤ nv) (n1 : nv = 1 → bb = 0) (n3 : nv < 3 → d = 0) (hr : StpT r) :
    ∃ T, rdL b n p nv w (K + 1) s minus raw = rdC b n p nv w K (s + 1 + (pX 120 a).length + (pX 121 bb).length + (pX 122 d).length) (raw ++ [T]) r := by
  obtain ⟨T, e⟩ := smd_tm (p := p) (w := w) (minus := minus) hb h hc ha hbb hd hnv n1 n3 hr
  refine ⟨T, ?_⟩
  have hl := h.len
  have ha9 : AtT Lt (s + 1 + (pX 120 a).length + (pX 121 bb).length + (pX 122 d).length) r := by
    obtain ⟨pre, e2, e3⟩ := h
    refine ⟨pre ++ ([48 + c] ++ (pX 120 a ++ (pX 121 bb ++ pX 122 d))), ?_, ?_⟩
    · rw [e2]; simp only [List.append_assoc]
    · simp only [List.length_append, List.length_cons, List.length_nil]; omega
  generalize s + 1 + (pX 120 a).length + (pX 121 bb).length + (pX 122 d).length = q at e ha9
  rw [rdL, e]
  rcases hr with e1 | ⟨q2, e1⟩ | ⟨q2, e1⟩ <;> rw [e1] at ha9 ⊢
  · have := ha9.nil
    have hs : see b n q = -1 := if_neg (by rw [hb.1]; omega)
    show (if see b n q = 43 then _ else if see b n q = 45 then _ else if see b n q = -1 then _ else _) = _
    rw [hs, if_neg (by omega), if_neg (by omega), if_pos rfl]
    rfl
  · obtain ⟨b1, b2, -⟩ := hb.at ha9
    show (if see b n q = 43 then _ else if see b n q = 45 then _ else if see b n q = -1 then _ else _) = _
    rw [see_at b1, b2, if_pos rfl, hb.sk]
    have h9 : rdC b n p nv w K q (raw ++ [T]) (43 :: q2) = rdL b n p nv w K (q + 1) false (raw ++ [T]) := by rw [rdC, if_pos rfl]
    exact h9.symm
  · obtain ⟨b1, b2, -⟩ := hb.at ha9
    show (if see b n q = 43 then _ else if see b n q = 45 then _ else if see b n q = -1 then _ else _) = _
    rw [see_at b1, b2, if_neg (by omega), if_pos rfl, hb.sk]
    have h9 : rdC b n p nv w K q (raw ++ [T]) (45 :: q2) = rdL b n p nv w K (q + 1) true (raw ++ [T]) := by rw [rdC, if_neg (by decide)]
    exact h9.symm
theorem rdAll_TxD (hb : BytT b n Lt) (hnv : nv = 1 ∨ nv = 2 ∨ nv = 3) : ∀ (k : Nat) (L r : List Int), TxD nv (k + 1) L → Lt = L ++ r → StpT r → ∃ raw, raw.length = k + 1 ∧ rdAll b n p nv w = rdC b n p nv w (n - k) L.length raw r
  | 0, L, r, ⟨L0, sg, c, a, bb, d, h0, eL, hs, hc, ha, hbb, hd, n1, n3⟩, e, hr => by
    have h0 : L0 = [] := h0
    have hs : sg = [] := by rcases hs with ⟨-, q⟩ | ⟨q, -⟩
                            · exact q
                            · exact absurd q (Nat.lt_irrefl _)
    rw [h0, hs] at eL
    have eL : L = [48 + c] ++ (pX 120 a ++ (pX 121 bb ++ pX 122 d)) := eL
    have at0 : AtT Lt 0 ([48 + c] ++ (pX 120 a ++ (pX 121 bb ++ (pX 122 d ++ r)))) := ⟨[], by rw [e, eL]; simp only [List.append_assoc, List.nil_append], rfl⟩
    obtain ⟨h1, h2, -⟩ := hb.at at0
    obtain ⟨T, eT⟩ := rdL_step (p := p) (w := w) (K := n) (minus := false) (raw := []) hb at0 hc ha hbb hd (by omega) n1 (fun q => n3 (by omega)) hr
    refine ⟨[T], rfl, ?_⟩
    unfold rdAll
    rw [hb.sk, see_at h1, h2, if_neg (by omega), eT, eL]
    simp only [List.length_append, List.length_cons, List.length_nil, List.nil_append, Nat.sub_zero]
    congr 1
    omega
  | k + 1, L, r, ⟨L0, sg, c, a, bb, d, h0, eL, hs, hc, ha, hbb, hd, n1, n3⟩, e, hr => by
    have hs : sg = [43] ∨ sg = [45] := by rcases hs with ⟨q, -⟩ | ⟨-, q⟩
                                          · omega
                                          · exact q
    obtain ⟨sc, esg, hsc⟩ : ∃ sc : Int, sg = [sc] ∧ (sc = 43 ∨ sc = 45) := by
      rcases hs with q | q
      · exact ⟨43, q, Or.inl rfl⟩
      · exact ⟨45, q, Or.inr rfl⟩
    rw [esg] at eL
    have e0 : Lt = L0 ++ (sc :: ([48 + c] ++ (pX 120 a ++ (pX 121 bb ++ (pX 122 d ++ r))))) := by
      rw [e, eL]
      unfold tmX
      simp only [List.append_assoc, List.cons_append, List.nil_append]
    obtain ⟨raw, hl, er⟩ := rdAll_TxD hb hnv k L0 _ h0 e0 (by
      rcases hsc with q | q <;> rw [q]
      · exact Or.inr (Or.inl ⟨_, rfl⟩)
      · exact Or.inr (Or.inr ⟨_, rfl⟩))
    have at1 : AtT Lt (L0.length + 1) ([48 + c] ++ (pX 120 a ++ (pX 121 bb ++ (pX 122 d ++ r)))) := (AtT.cons ⟨L0, e0, rfl⟩).2.2
    have kn : k + 1 ≤ n := by
      have : ∀ (j : Nat) (M : List Int), TxD nv j M → j ≤ M.length := by
        intro j
        induction j with
        | zero => exact fun _ _ => Nat.zero_le _
        | succ j ih =>
          intro M ⟨M0, sg, c, a, bb, d, h0, eM, _⟩
          have := ih M0 h0
          rw [eM]
          unfold tmX
          simp only [List.length_append, List.length_cons, List.length_nil]
          omega
      have := this _ _ h0
      have h8 := at1.len
      rw [← hb.1] at h8
      omega
    have step : ∀ m : Bool, ∃ T, rdL b n p nv w (n - k) (L0.length + 1) m raw = rdC b n p nv w (n - (k + 1)) L.length (raw ++ [T]) r := by
      intro m
      obtain ⟨T, eT⟩ := rdL_step (p := p) (w := w) (K := n - (k + 1)) (minus := m) (raw := raw) hb at1 hc ha hbb hd (by omega) n1 (fun q => n3 (by omega)) hr
      refine ⟨T, ?_⟩
      rw [show n - (k + 1) + 1 = n - k by omega] at eT
      rw [eT, eL]
      unfold tmX
      simp only [List.length_append, List.length_cons, List.length_nil]
      congr 1
      omega
    rcases hsc with q | q
    · obtain ⟨T, eT⟩ := step false
      refine ⟨raw ++ [T], by rw [List.length_append, hl]; rfl, ?_⟩
      rw [er, ← eT, q, rdC, if_pos rfl]
    · obtain ⟨T, eT⟩ := step true
      refine ⟨raw ++ [T], by rw [List.length_append, hl]; rfl, ?_⟩
      rw [er, ← eT, q, rdC, if_neg (by decide)]
theorem insT_len {p m v : Int} : ∀ {L : List Tm}, (insT p L m v).length ≤ L.length + 1
  | [] => Nat.le_refl _
  | t :: L => by
    have h1 := insT_len (p := p) (m := m) (v := v) (L := L)
    rw [insT]
    split
    · simp only [List.length_cons]; omega
    · split
      · simp only [List.length_cons]; omega
      · simp only [List.length_cons]; omega
theorem heaps_len {p : Int} : ∀ (raw L : List Tm), (heapsL p L raw).length ≤ L.length + raw.length
  | [], L => Nat.le_refl _
  | t :: raw, L => by
    have h1 := heaps_len (p := p) raw (heapT p L t.1 t.2)
    have h2 : (heapT p L t.1 t.2).length ≤ L.length + 1 := by
      unfold heapT
      split
      · omega
      · exact insT_len
    show (heapsL p (heapT p L t.1 t.2) raw).length ≤ L.length + (raw.length + 1)
    omega
theorem canon_len {p : Int} (raw : List Tm) : (canon p raw).length ≤ raw.length := by
  have h1 := heaps_len (p := p) raw []
  have h2 : (nz (heapsL p [] raw)).length ≤ (heapsL p [] raw).length := List.length_filter_le _ _
  unfold canon
  rw [List.length_nil] at h1
  omega
theorem rdP_TxD {k : Nat} {L : List Int} (hb : BytT b n L) (hnv : nv = 1 ∨ nv = 2 ∨ nv = 3) (hk : k ≤ 3) (hL : TxD nv (k + 1) L) : ∃ M, rdP b n p nv w = Sum.inr M := by
  obtain ⟨raw, hl, e⟩ := rdAll_TxD (p := p) (w := w) hb hnv k L [] hL (List.append_nil L).symm (Or.inl rfl)
  have hc := canon_len (p := p) raw
  refine ⟨canon p raw, ?_⟩
  unfold rdP
  rw [e]
  exact if_neg (by omega)
end PS
