/-! ===== X5: insert, add, dropZeros, reorder ===== -/
/-- behind place k the cells stay -/
def tl3 (I I' : MI) (a k : Nat) : Prop := ∀ j, k ≤ j → I' (a + 1) j = I (a + 1) j ∧ I' (a + 2) j = I (a + 2) j
section P53
variable {G : Gl} {S : Sh} {I : MI} {R : MR} {a b cap capb : Nat} {L f g : List Tm} {m v c p : Int} {Q : Sh → MI → MR → Prop}
theorem insert_spec {I0 : MI} {at_ : Nat} (h : PolyS S R a cap) (hL : Has I0 a L) (hc : cap ≤ 100000) (hat : at_ ≤ L.length) (hl : L.length < cap)
    (hq : ∀ I', off3 I0 I' a → tl3 I0 I' a (L.length + 1) → Has I' a (L.take at_ ++ (m, v) :: L.drop at_) → Q S I' R) : CV G MX5_insert [vR a, vI (at_ : Int), vI m, vI v] S I0 R Q := by
  obtain ⟨t0, r0, r1, t1, t2, l1, l2⟩ := id h
  have fin : ∀ I : MI, off3 I0 I a → tl3 I0 I a (L.length + 1) → I a 2 = (L.length : Int) → (∀ j t, L[j]? = some t → (j < at_ → I (a + 1) j = t.1 ∧ I (a + 2) j = t.2) ∧ (at_ ≤ j → I (a + 1) (j + 1) = t.1 ∧ I (a + 2) (j + 1) = t.2)) → LX5_insert_68 G a (at_ : Int) m v S I R Q := by
    intro I ho htl hn hcell
    refine bX5_insert_68 (br_f (by omega) ⟨t0, ?_⟩)
    rw [hn, r0, r1, t1, t2, l1, l2]
    refine br_f (by omega) ⟨rfl, ⟨by omega, by omega⟩, ?_⟩
    intro I86 e86
    refine ⟨rfl, ⟨by omega, by omega⟩, ?_⟩
    intro I93 e93 I101 e101
    rw [show Int.toNat (at_ : Int) = at_ by omega] at e86 e93
    rw [u_n e93 (by omega), u_n e86 (by omega), hn, add1 (by omega)] at e101
    refine hq I101 (((ho.tr (off3.u e86 (by omega))).tr (off3.u e93 (by omega))).tr (off3.u e101 (by omega))) (fun j hj => ?_) ⟨?_, fun j t ht => ?_⟩
    · rw [u_n e101 (by omega), u_n e101 (by omega), u_n e93 (show a + 1 ≠ a + 2 by omega), u_o e93 (by omega), u_o e86 (by omega), u_n e86 (by omega)]
      exact htl j hj
    · rw [u_s e101]
      congr 1
      simp only [List.length_append, List.length_cons, List.length_take, List.length_drop]
      omega
    · rw [u_n e101 (by omega), u_n e101 (by omega), u_n e93 (show a + 1 ≠ a + 2 by omega)]
      have htk : (L.take at_).length = at_ := by rw [List.length_take]; omega
      rcases Nat.lt_trichotomy j at_ with hj | hj | hj
      · rw [List.getElem?_append_left (by omega), List.getElem?_take_of_lt hj] at ht
        rw [u_o e86 (by omega), u_o e93 (by omega), u_n e86 (by omega)]
        exact (hcell j t ht).1 hj
      · subst hj
        rw [List.getElem?_append_right (by omega), htk, Nat.sub_self] at ht
        cases Option.some.inj ht
        exact ⟨u_s e86, u_s e93⟩
      · rw [List.getElem?_append_right (by omega), htk, show j - at_ = (j - at_ - 1) + 1 by omega, List.getElem?_cons_succ, List.getElem?_drop] at ht
        rw [u_o e86 (by omega), u_o e93 (by omega), u_n e86 (by omega)]
        have := (hcell _ t ht).2 (by omega)
        rw [show at_ + (j - at_ - 1) + 1 = j by omega] at this
        exact this
  have loop : ∀ (k i : Nat) (I : MI), i - at_ = k → at_ ≤ i → i ≤ L.length → off3 I0 I a → tl3 I0 I a (L.length + 1) → I a 2 = (L.length : Int) → (∀ j t, L[j]? = some t → (j < i → I (a + 1) j = t.1 ∧ I (a + 2) j = t.2) ∧ (i ≤ j → I (a + 1) (j + 1) = t.1 ∧ I (a + 2) (j + 1) = t.2)) → LX5_insert_19 G a (at_ : Int) m v (i : Int) S I R Q := by
    intro k
    induction k with
    | zero =>
      intro i I hk h1 h2 ho htl hn hcell
      have : i = at_ := by omega
      subst this
      exact bX5_insert_19 (br_t (by omega) (fin I ho htl hn hcell))
    | succ k ih =>
      intro i I hk h1 h2 ho htl hn hcell
      refine bX5_insert_19 (br_f (by omega) (br_f (by omega) ⟨t0, ?_⟩))
      rw [r0, r1, t1, t2, l1, l2, w32_id (x := (i : Int) - 1) (by omega)]
      refine ⟨rfl, ⟨by omega, by omega⟩, ⟨by omega, by omega⟩, ?_⟩
      intro I45 e45
      refine ⟨rfl, ⟨by omega, by omega⟩, ⟨by omega, by omega⟩, ?_⟩
      intro I61 e61
      rw [show Int.toNat (i : Int) = i by omega, show Int.toNat ((i : Int) - 1) = i - 1 by omega] at e45 e61
      rw [u_n e45 (by omega)] at e61
      rw [w32_id (by omega), show (i : Int) + -1 = ((i - 1 : Nat) : Int) by omega]
      have hil : i - 1 < L.length := by omega
      have hget := (hcell (i - 1) L[i - 1] (List.getElem?_eq_getElem hil)).1 (by omega)
      refine ih (i - 1) I61 (by omega) (by omega) (by omega) ((ho.tr (off3.u e45 (by omega))).tr (off3.u e61 (by omega))) (fun j hj => ?_) ?_ (fun j t ht => ?_)
      · rw [u_n e61 (show a + 1 ≠ a + 2 by omega), u_o e61 (by omega), u_o e45 (by omega), u_n e45 (by omega)]
        exact htl j hj
      · rw [u_n e61 (by omega), u_n e45 (by omega)]; exact hn
      · rw [u_n e61 (show a + 1 ≠ a + 2 by omega)]
        constructor
        · intro hj
          rw [u_o e45 (by omega), u_o e61 (by omega), u_n e45 (by omega)]
          exact (hcell j t ht).1 (by omega)
        · intro hj
          by_cases hji : j = i - 1
          · subst hji
            rw [List.getElem?_eq_getElem hil] at ht
            cases Option.some.inj ht
            rw [show i - 1 + 1 = i by omega, u_s e45, u_s e61]
            exact hget
          · rw [u_o e45 (by omega), u_o e61 (by omega), u_n e45 (by omega)]
            exact (hcell j t ht).2 (by omega)
  refine bX5_insert ⟨t0, ?_⟩
  rw [r0, t1, l1, hL.1]
  refine ⟨by decide, br_t (by omega) ?_⟩
  refine loop (L.length - at_) L.length I0 rfl hat (Nat.le_refl _) off3.rf (fun _ _ => ⟨rfl, rfl⟩) hL.1 (fun j t ht => ⟨fun _ => hL.2 j t ht, fun hj => ?_⟩)
  have := (List.getElem?_eq_some_iff.mp ht).1
  omega
theorem ins_at {L : List Tm} : ∀ {i : Nat}, (∀ t ∈ L.take i, t.1 < m) → insT p L m v = L.take i ++ insT p (L.drop i) m v := by
  induction L with
  | nil => intro i _; simp
  | cons a L ih =>
    intro i h
    cases i with
    | zero => rfl
    | succ i =>
      have ha : a.1 < m := h a (by simp)
      rw [List.take_succ_cons, List.drop_succ_cons, List.cons_append]
      show (if a.1 < m then a :: insT p L m v else if a.1 = m then _ else _) = _
      rw [if_pos ha, ih (i := i) (fun t ht => h t (by simp [ht]))]
theorem add_spec {I0 : MI} {nu : Nat} (h : PolyS S R a cap) (hL : Has I0 a L) (hc : cap ≤ 100000) (hl : L.length < cap) (hN : NumS S I0 nu p) (hco : ∀ t ∈ L, 0 ≤ t.2 ∧ t.2 < p) (hv : 0 ≤ v ∧ v < p)
    (hq : ∀ I', off3 I0 I' a → tl3 I0 I' a (L.length + 1) → Has I' a (insT p L m v) → Q S I' R) : CV G MX5_add [vR a, vI m, vI v, vR nu] S I0 R Q := by
  obtain ⟨t0, r0, r1, t1, t2, l1, l2⟩ := id h
  have stop : ∀ i : Nat, i ≤ L.length → (∀ t ∈ L.take i, t.1 < m) → (∀ t, L[i]? = some t → ¬ t.1 < m) → LX5_add_29 G a m v nu (i : Int) S I0 R Q := by
    intro i hi hpre hst
    have hins := ins_at (p := p) (v := v) hpre
    refine bX5_add_29 ⟨t0, ?_⟩
    rw [hL.1, r0, r1, t1, t2, l1, l2]
    by_cases hif : i < L.length
    · have hg := hL.at hif
      have hd : L.drop i = L[i] :: L.drop (i + 1) := List.drop_eq_getElem_cons hif
      have hs := hst _ (List.getElem?_eq_getElem hif)
      refine br_f (by omega) ⟨rfl, ⟨by omega, by omega⟩, ?_⟩
      rw [show Int.toNat (i : Int) = i by omega, hg.1, hg.2]
      refine ⟨fun c => ?_, fun c => ⟨rfl, ⟨by omega, by omega⟩, hN.1, p4pt hN, ?_⟩⟩
      · refine insert_spec h hL hc (by omega) hl (fun I' h1 h2 h3 => hq I' h1 h2 ?_)
        rw [hins, hd]
        show Has I' a (L.take i ++ (if L[i].1 < m then _ else if L[i].1 = m then _ else _))
        rw [if_neg hs, if_neg c, ← hd]
        exact h3
      · have c' : L[i].1 = m := Decidable.not_not.mp c
        intro I68 e68
        have hci := hco _ (List.getElem_mem hif)
        have hpp := hN.2.2
        rw [v4pt hN hci ⟨by omega, by omega⟩ hv, Int.one_mul] at e68
        refine hq I68 (off3.u e68 (by omega)) (fun j hj => ?_) ?_
        · rw [u_n e68 (by omega), u_o e68 (by omega)]; exact ⟨rfl, rfl⟩
        · rw [hins, hd]
          show Has I68 a (L.take i ++ (if L[i].1 < m then _ else if L[i].1 = m then _ else _))
          rw [if_neg hs, if_pos c']
          have htk : (L.take i).length = i := by rw [List.length_take]; omega
          refine ⟨?_, fun j t ht => ?_⟩
          · rw [u_n e68 (by omega), hL.1]
            congr 1
            simp only [List.length_append, List.length_cons, List.length_take, List.length_drop]
            omega
          · rw [u_n e68 (by omega)]
            rcases Nat.lt_trichotomy j i with hj | hj | hj
            · rw [List.getElem?_append_left (by omega), List.getElem?_take_of_lt hj] at ht
              rw [u_o e68 (by omega)]
              exact hL.2 j t ht
            · subst hj
              rw [List.getElem?_append_right (by omega), htk, Nat.sub_self] at ht
              cases Option.some.inj ht
              exact ⟨hg.1, u_s e68⟩
            · rw [List.getElem?_append_right (by omega), htk, show j - i = (j - i - 1) + 1 by omega, List.getElem?_cons_succ, List.getElem?_drop, show i + 1 + (j - i - 1) = j by omega] at ht
              rw [u_o e68 (by omega)]
              exact hL.2 j t ht
    · have hi' : i = L.length := by omega
      refine br_t (by omega) ?_
      refine insert_spec h hL hc hi hl (fun I' h1 h2 h3 => hq I' h1 h2 ?_)
      rw [hins, List.drop_eq_nil_of_le (by omega)]
      rw [List.drop_eq_nil_of_le (by omega)] at h3
      exact h3
  have loop : ∀ (k i : Nat), L.length - i = k → i ≤ L.length → (∀ t ∈ L.take i, t.1 < m) → LX5_add_3 G a m v nu (i : Int) S I0 R Q := by
    intro k
    induction k with
    | zero =>
      intro i hk hi hpre
      refine bX5_add_3 ⟨t0, ?_⟩
      rw [hL.1]
      refine br_t (by omega) (stop i hi hpre (fun t ht => ?_))
      have := (List.getElem?_eq_some_iff.mp ht).1
      omega
    | succ k ih =>
      intro i hk hi hpre
      have hif : i < L.length := by omega
      have hg := hL.at hif
      refine bX5_add_3 ⟨t0, ?_⟩
      rw [hL.1, r0, t1, l1]
      refine br_f (by omega) ⟨rfl, ⟨by omega, by omega⟩, ?_⟩
      rw [show Int.toNat (i : Int) = i by omega, hg.1, add1 (by omega)]
      refine ⟨fun c => stop i hi hpre (fun t ht => ?_), fun c => ih (i + 1) (by omega) (by omega) (fun t ht => ?_)⟩
      · rw [List.getElem?_eq_getElem hif] at ht
        cases Option.some.inj ht
        omega
      · rw [take_succ_get hif] at ht
        rcases List.mem_append.mp ht with ht | ht
        · exact hpre t ht
        · rcases List.mem_singleton.mp ht with rfl
          omega
  exact bX5_add (loop L.length 0 (by omega) (by omega) (fun t ht => by simp at ht))
theorem dropZeros_spec {I0 : MI} (h : PolyS S R a cap) (hL : Has I0 a L) (hc : cap ≤ 100000) (hl : L.length ≤ cap) (hq : ∀ I', off3 I0 I' a → Has I' a (nz L) → Q S I' R) : CV G MX5_dropZeros [vR a] S I0 R Q := by
  obtain ⟨t0, r0, r1, t1, t2, l1, l2⟩ := id h
  have loop : ∀ (k i : Nat) (I : MI), L.length - i = k → i ≤ L.length → off3 I0 I a → I a 2 = (L.length : Int) → (∀ j t, i ≤ j → L[j]? = some t → I (a + 1) j = t.1 ∧ I (a + 2) j = t.2) → (∀ j t, (nz (L.take i))[j]? = some t → I (a + 1) j = t.1 ∧ I (a + 2) j = t.2) → LX5_dropZeros_4 G a ((nz (L.take i)).length : Int) (i : Int) S I R Q := by
    intro k
    induction k with
    | zero =>
      intro i I hk hi ho hn hre hout
      refine bX5_dropZeros_4 ⟨t0, ?_⟩
      rw [hn]
      refine br_t (by omega) ?_
      rw [List.take_of_length_le (by omega)] at hout ⊢
      intro I56 e56
      refine hq I56 (ho.tr (off3.u e56 (by omega))) ⟨u_s e56, fun j t ht => ?_⟩
      rw [u_n e56 (by omega), u_n e56 (by omega)]
      exact hout j t ht
    | succ k ih =>
      intro i I hk hi ho hn hre hout
      have hif : i < L.length := by omega
      have hg := hre i L[i] (Nat.le_refl _) (List.getElem?_eq_getElem hif)
      have hlen : (nz (L.take i)).length ≤ i := by
        unfold nz
        have := List.length_filter_le (fun t : Tm => decide (t.2 ≠ 0)) (L.take i)
        rw [List.length_take] at this; omega
      have hnz : nz (L.take (i + 1)) = nz (L.take i) ++ nz [L[i]] := by
        unfold nz
        rw [take_succ_get hif, List.filter_append]
      refine bX5_dropZeros_4 ⟨t0, ?_⟩
      rw [hn, r0, r1, t1, t2, l1, l2]
      refine br_f (by omega) ⟨rfl, ⟨by omega, by omega⟩, ?_⟩
      rw [show Int.toNat (i : Int) = i by omega, hg.1, hg.2, add1 (n := i) (by omega), add1 (n := (nz (L.take i)).length) (by omega), show Int.toNat ((nz (L.take i)).length : Int) = (nz (L.take i)).length by omega]
      refine ⟨fun c => ?_, fun c => ⟨rfl, ⟨by omega, by omega⟩, ⟨by omega, by omega⟩, ?_⟩⟩
      · have e : nz (L.take (i + 1)) = nz (L.take i) := by rw [hnz]; unfold nz; simp [c]
        have := ih (i + 1) I (by omega) (by omega) ho hn (fun j t hj ht => hre j t (by omega) ht) (by rw [e]; exact hout)
        rw [e] at this
        exact this
      · intro I32 e32
        refine ⟨⟨by omega, by omega⟩, ?_⟩
        intro I44 e44
        rw [u_n e32 (by omega), hg.2] at e44
        have e : nz (L.take (i + 1)) = nz (L.take i) ++ [L[i]] := by rw [hnz]; unfold nz; simp [c]
        have := ih (i + 1) I44 (by omega) (by omega) ((ho.tr (off3.u e32 (by omega))).tr (off3.u e44 (by omega))) (by rw [u_n e44 (by omega), u_n e32 (by omega)]; exact hn) (fun j t hj ht => ?_) (fun j t ht => ?_)
        · rw [e, List.length_append] at this
          exact this
        · rw [u_n e44 (show a + 1 ≠ a + 2 by omega), u_o e32 (by omega), u_o e44 (by omega), u_n e32 (by omega)]
          exact hre j t (by omega) ht
        · rw [u_n e44 (show a + 1 ≠ a + 2 by omega)]
          rw [e] at ht
          by_cases hj : j < (nz (L.take i)).length
          · rw [List.getElem?_append_left hj] at ht
            rw [u_o e32 (by omega), u_o e44 (by omega), u_n e32 (by omega)]
            exact hout j t ht
          · rw [List.getElem?_append_right (by omega)] at ht
            have h3 : j - (nz (L.take i)).length < 1 := (List.getElem?_eq_some_iff.mp ht).1
            have h4 : j = (nz (L.take i)).length := by omega
            subst h4
            rw [Nat.sub_self] at ht
            cases Option.some.inj ht
            exact ⟨u_s e32, u_s e44⟩
  exact bX5_dropZeros (loop L.length 0 I0 (by omega) (by omega) off3.rf hL.1 (fun j t _ ht => hL.2 j t ht) (fun j t ht => by simp [nz] at ht))
end P53

