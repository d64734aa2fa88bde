/-! ===== X5.reorder ===== -/
def rek (w : Nat → Int) (t : Tm) : Tm := (key w (exx t.1) (exy t.1) (exz t.1), t.2)
def insAll (p : Int) (L raw : List Tm) : List Tm := raw.foldl (fun L t => insT p L t.1 t.2) L
theorem insAll_snoc (p : Int) (L raw : List Tm) (t : Tm) : insAll p L (raw ++ [t]) = insT p (insAll p L raw) t.1 t.2 := by
  unfold insAll; rw [List.foldl_append]; rfl
theorem ins_len (p : Int) (m v : Int) : ∀ L : List Tm, (insT p L m v).length ≤ L.length + 1
  | [] => Nat.le_refl _
  | a :: L => by
    have := ins_len p m v L
    show (if a.1 < m then a :: insT p L m v else if a.1 = m then (a.1, (a.2 + v) % p) :: L else (m, v) :: a :: L).length ≤ _
    split
    · simp only [List.length_cons]; omega
    · split
      · simp only [List.length_cons]; omega
      · simp only [List.length_cons]; omega
theorem insAll_len (p : Int) : ∀ (raw L : List Tm), (insAll p L raw).length ≤ L.length + raw.length
  | [], L => Nat.le_refl _
  | t :: raw, L => by
    have h1 := insAll_len p raw (insT p L t.1 t.2)
    have h2 := ins_len p t.1 t.2 L
    show (insAll p (insT p L t.1 t.2) raw).length ≤ _
    simp only [List.length_cons]
    omega
theorem insAll_heaps {p : Int} : ∀ {raw : List Tm} (L : List Tm), (∀ t ∈ raw, t.2 ≠ 0) → insAll p L raw = heapsL p L raw
  | [], _, _ => rfl
  | t :: raw, L, h => by
    show insAll p (insT p L t.1 t.2) raw = heapsL p (heapT p L t.1 t.2) raw
    rw [show heapT p L t.1 t.2 = insT p L t.1 t.2 from if_neg (h t List.mem_cons_self)]
    exact insAll_heaps _ (fun s hs => h s (List.mem_cons_of_mem _ hs))
theorem insAll_red0 {p : Int} (hp : 0 < p) : ∀ {raw L : List Tm}, Red0 p raw → Red0 p L → Red0 p (insAll p L raw)
  | [], _, _, h => h
  | t :: raw, L, hr, h => insAll_red0 hp (raw := raw) (fun s hs => hr s (List.mem_cons_of_mem _ hs)) (ins_red hp (hr t List.mem_cons_self) h)
theorem ins_new {p m v : Int} : ∀ {L : List Tm}, (∀ t ∈ L, t.1 ≠ m) → ∀ t ∈ insT p L m v, t = (m, v) ∨ t ∈ L
  | [], _, t, h => Or.inl (List.mem_singleton.mp h)
  | a :: L, hn, t, h => by
    have ha := hn a List.mem_cons_self
    have h' : t ∈ (if a.1 < m then a :: insT p L m v else if a.1 = m then (a.1, (a.2 + v) % p) :: L else (m, v) :: a :: L) := h
    split at h'
    · rcases List.mem_cons.mp h' with rfl | h2
      · exact Or.inr List.mem_cons_self
      · rcases ins_new (fun s hs => hn s (List.mem_cons_of_mem _ hs)) t h2 with h3 | h3
        · exact Or.inl h3
        · exact Or.inr (List.mem_cons_of_mem _ h3)
    · rcases List.mem_cons.mp h' with h2 | h2
      · exact Or.inl h2
      · exact Or.inr h2
theorem heaps_new {p : Int} : ∀ {raw L : List Tm}, raw.Pairwise (fun a b => a.1 ≠ b.1) → (∀ t ∈ raw, ∀ s ∈ L, s.1 ≠ t.1) → Red p raw → Red p L → Red p (heapsL p L raw) ∧ ∀ s ∈ heapsL p L raw, (∃ t ∈ raw, t = s) ∨ s ∈ L
  | [], L, _, _, _, h => ⟨h, fun s hs => Or.inr hs⟩
  | t :: raw, L, hd, hL, hr, h => by
    have ht := hr t List.mem_cons_self
    have e : heapT p L t.1 t.2 = insT p L t.1 t.2 := if_neg (by omega)
    have hnew := ins_new (p := p) (v := t.2) (hL t List.mem_cons_self)
    have hred : Red p (insT p L t.1 t.2) := fun s hs => by
      rcases hnew s hs with rfl | h2
      · exact ht
      · exact h s h2
    have hp := List.pairwise_cons.mp hd
    have ih := heaps_new (p := p) (raw := raw) (L := insT p L t.1 t.2) hp.2 (fun r hr' s hs => by
      rcases hnew s hs with rfl | h2
      · exact hp.1 r hr'
      · exact hL r (List.mem_cons_of_mem _ hr') s h2) hr.tail hred
    show Red p (heapsL p (heapT p L t.1 t.2) raw) ∧ ∀ s ∈ heapsL p (heapT p L t.1 t.2) raw, _
    rw [e]
    refine ⟨ih.1, fun s hs => ?_⟩
    rcases ih.2 s hs with ⟨r, hr', e2⟩ | h2
    · exact Or.inl ⟨r, List.mem_cons_of_mem _ hr', e2⟩
    · rcases hnew s h2 with h3 | h3
      · exact Or.inl ⟨t, List.mem_cons_self, by rw [h3]⟩
      · exact Or.inr h3
theorem nz_id {p : Int} {L : List Tm} (h : Red p L) : nz L = L := by
  unfold nz
  apply List.filter_eq_self.mpr
  intro t ht
  have := h t ht
  exact decide_eq_true (by omega)
/-- a polynomial by its ring's weights -/
def okP (p : Int) (w : Nat → Int) (L : List Tm) : Prop := Can p L ∧ ∀ t ∈ L, okm t.1 ∧ ¬ hi t.1 ∧ gk w t.1
theorem rek_ok {w : Nat → Int} {t : Tm} (hw : wtOK w) (h : ¬ hi t.1) : okm (rek w t).1 ∧ ¬ hi (rek w t).1 ∧ gk w (rek w t).1 := by
  have hr := ex_r t.1
  unfold hi at h
  refine ⟨okm_key hw (by omega) (by omega) (by omega), ?_, gk_key (by omega) (by omega) (by omega)⟩
  unfold hi rek key
  rw [exx_pk (by omega) (by omega) (by omega), exy_pk (by omega) (by omega) (by omega), exz_pk (by omega) (by omega) (by omega)]
  exact h
theorem rek_dist {p : Int} {w u : Nat → Int} {f : List Tm} (hf : okP p u f) : (f.map (rek w)).Pairwise (fun a b => a.1 ≠ b.1) := by
  rw [List.pairwise_map]
  refine List.Pairwise.imp_of_mem (fun {a b} ha hb hab e => ?_) hf.1.1
  have ra := ex_r a.1
  have rb := ex_r b.1
  have e1 : exx a.1 = exx b.1 := by have := congrArg exx e; unfold rek key at this; simp only at this; rwa [exx_pk (by omega) (by omega) (by omega), exx_pk (by omega) (by omega) (by omega)] at this
  have e2 : exy a.1 = exy b.1 := by have := congrArg exy e; unfold rek key at this; simp only at this; rwa [exy_pk (by omega) (by omega) (by omega), exy_pk (by omega) (by omega) (by omega)] at this
  have e3 : exz a.1 = exz b.1 := by have := congrArg exz e; unfold rek key at this; simp only at this; rwa [exz_pk (by omega) (by omega) (by omega), exz_pk (by omega) (by omega) (by omega)] at this
  have ka := key_gk (hf.2 a ha).2.2
  have kb := key_gk (hf.2 b hb).2.2
  rw [e1, e2, e3] at ka
  omega
/-- a polynomial told anew by other weights -/
def rekL (p : Int) (w : Nat → Int) (f : List Tm) : List Tm := canon p (f.map (rek w))
theorem red_rek {p : Int} {w : Nat → Int} {f : List Tm} (h : Red p f) : Red p (f.map (rek w)) := fun t ht => by
  obtain ⟨s, hs, rfl⟩ := List.mem_map.mp ht
  exact h s hs
theorem rekL_ins {p : Int} {w u : Nat → Int} {f : List Tm} (hf : okP p u f) : insAll p [] (f.map (rek w)) = rekL p w f := by
  have hr := red_rek (w := w) hf.1.2
  rw [insAll_heaps [] (fun t ht => by have := hr t ht; omega)]
  unfold rekL canon
  exact (nz_id (heaps_new (rek_dist hf) (fun _ _ _ h => by cases h) hr (fun _ h => by cases h)).1).symm
theorem rekL_ok {p : Int} {w u : Nat → Int} {f : List Tm} (hp : 0 < p) (hw : wtOK w) (hf : okP p u f) : okP p w (rekL p w f) ∧ (rekL p w f).length ≤ f.length := by
  have hr := red_rek (w := w) hf.1.2
  refine ⟨⟨canon_can hp (red0_of hr), fun t ht => ?_⟩, ?_⟩
  · rw [← rekL_ins hf, insAll_heaps [] (fun t ht => by have := hr t ht; omega)] at ht
    rcases (heaps_new (rek_dist hf) (fun _ _ _ h => by cases h) hr (fun _ h => by cases h)).2 t ht with ⟨s, hs, rfl⟩ | h
    · obtain ⟨q, hq, rfl⟩ := List.mem_map.mp hs
      exact rek_ok hw (hf.2 q hq).2.1
    · cases h
  · rw [← rekL_ins hf]
    have := insAll_len p (f.map (rek w)) []
    simp only [List.length_nil, List.length_map] at this
    omega
theorem reorder_spec {G : Gl} {S : Sh} {R : MR} {a cap r nu : Nat} {f : List Tm} {p n : Int} {w u : Nat → Int} {Q : Sh → MI → MR → Prop} {I0 : MI} (h : PolyS S R a cap) (hL : Has I0 a f) (hc : cap ≤ 100000) (hl : f.length ≤ cap) (hf : okP p u f)
    (hr : RingL S R r) (hrv : RingV I0 r n w) (hnu : R r 1 = nu) (hN : NumS S I0 nu p) (hx : ∀ x, x = nu ∨ x = r ∨ x = r + 2 → x ≠ a ∧ x ≠ a + 1 ∧ x ≠ a + 2)
    (hq : ∀ I', off3 I0 I' a → Has I' a (rekL p w f) → Q S I' R) : CV G MX5_reorder [vR a, vR r] S I0 R Q := by
  obtain ⟨t0, r0, r1, t1, t2, l1, l2⟩ := id h
  have hp0 : 0 < p := by have := hN.2.2; omega
  have loop : ∀ (k i : Nat) (I : MI), f.length - i = k → i ≤ f.length → off3 I0 I a → (∀ j t, i ≤ j → f[j]? = some t → I (a + 1) j = t.1 ∧ I (a + 2) j = t.2) → Has I a (insAll p [] ((f.take i).map (rek w))) → LX5_reorder_12 G a r (f.length : Int) (i : Int) S I R Q := by
    intro k
    induction k with
    | zero =>
      intro i I hk hi ho hre ha
      refine bX5_reorder_12 (br_t (by omega) (hq I ho ?_))
      rw [List.take_of_length_le (by omega), rekL_ins hf] at ha
      exact ha
    | succ k ih =>
      intro i I hk hi ho hre ha
      have hif : i < f.length := by omega
      have hg := hre i f[i] (Nat.le_refl _) (List.getElem?_eq_getElem hif)
      have hfi := hf.2 _ (List.getElem_mem hif)
      have hfr := hf.1.2 _ (List.getElem_mem hif)
      have her := ex_r f[i].1
      have hnx := hx nu (Or.inl rfl)
      have hxr := hx r (Or.inr (Or.inl rfl))
      have hxr2 := hx (r + 2) (Or.inr (Or.inr rfl))
      have hN' : NumS S I nu p := ⟨hN.1, by rw [ho nu hnx.1 hnx.2.1 hnx.2.2]; exact hN.2.1, hN.2.2⟩
      have hrv2 : RingV I r n w := ⟨by rw [ho r hxr.1 hxr.2.1 hxr.2.2]; exact hrv.1, hrv.2.1, fun i hi => by rw [ho (r + 2) hxr2.1 hxr2.2.1 hxr2.2.2]; exact hrv.2.2.1 i hi, hrv.2.2.2⟩
      have hlen : (insAll p [] ((f.take i).map (rek w))).length ≤ i := by
        have := insAll_len p ((f.take i).map (rek w)) []
        simp only [List.length_nil, List.length_map, List.length_take] at this
        omega
      refine bX5_reorder_12 (br_f (by omega) ⟨t0, ?_⟩)
      rw [r0, r1, t1, t2, l1, l2, hnu]
      refine ⟨rfl, ⟨by omega, by omega⟩, hr.1, p6mono hr, rfl, ⟨by omega, by omega⟩, ?_⟩
      rw [show Int.toNat (i : Int) = i by omega, hg.1, hg.2, vexp hfi.1.i (by decide), vexp hfi.1.i (by decide), vexp hfi.1.i (by decide), add1 (by omega)]
      show CV G MX5_add [vR a, vI (vX6_mono I R r (exx f[i].1) (exy f[i].1) (exz f[i].1)), vI f[i].2, vR nu] S I R _
      rw [v6mono hr hrv2 (by omega) (by omega) (by omega)]
      refine add_spec h ha hc (by omega) hN' (insAll_red0 hp0 (fun t ht => ?_) (fun _ h => by cases h)) ⟨by omega, by omega⟩ (fun I' ho' htl hh => ?_)
      · obtain ⟨s, hs, rfl⟩ := List.mem_map.mp ht
        have := hf.1.2 s (List.mem_of_mem_take hs)
        exact ⟨by show 0 ≤ s.2; omega, this.2⟩
      · refine ih (i + 1) I' (by omega) (by omega) (ho.tr ho') (fun j t hj ht => ?_) ?_
        · have := htl j (by omega)
          rw [this.1, this.2]
          exact hre j t (by omega) ht
        · rw [take_succ_get hif, List.map_append, List.map_cons, List.map_nil, insAll_snoc]
          exact hh
  refine bX5_reorder ⟨t0, ?_⟩
  intro I7 e7
  rw [hL.1]
  exact loop f.length 0 I7 (by omega) (by omega) (off3.u e7 (by omega)) (fun j t _ ht => by rw [u_n e7 (by omega), u_n e7 (by omega)]; exact hL.2 j t ht) ⟨u_s e7, fun i t ht => by simp [insAll] at ht⟩

