/-! ===== X5: lowest terms, derivatives, a term more, zeros left out, a new order ===== -/
theorem tw_take {P : Tm → Bool} : ∀ {f : List Tm} {i : Nat}, (∀ t ∈ f.take i, P t = true) → (f.length ≤ i ∨ ∃ t, f[i]? = some t ∧ P t = false) → f.takeWhile P = f.take i
  | [], i, _, _ => by simp
  | a :: f, 0, _, h => by
    rcases h with h | ⟨t, ht, hp⟩
    · simp at h
    · cases Option.some.inj ht
      simp [List.takeWhile_cons, hp]
  | a :: f, i + 1, h, h2 => by
    have ha : P a = true := h a (by simp)
    rw [List.takeWhile_cons, List.take_succ_cons]
    simp only [ha, if_true]
    rw [tw_take (i := i) (fun t ht => h t (by simp [ht])) (by
      rcases h2 with h2 | ⟨t, ht, hp⟩
      · left; simp at h2; omega
      · right; exact ⟨t, by simpa using ht, hp⟩)]
theorem take_succ_get {α : Type} {f : List α} {i : Nat} (h : i < f.length) : f.take (i + 1) = f.take i ++ [f[i]] := by
  rw [List.take_add_one, List.getElem?_eq_getElem h]; rfl
def lowT (f : List Tm) : List Tm := f.takeWhile (fun t => decide (dg t.1 = lowL f))
section P52
variable {G : Gl} {S : Sh} {I : MI} {R : MR} {a b cap capb : Nat} {L f g : List Tm} {m c p : Int} {Q : Sh → MI → MR → Prop}
theorem becomeLowest_spec {I0 : MI} (h : PolyS S R a cap) (hb : PolyS S R b capb) (hf : Has I0 b f) (hd : apt b a) (hc : cap ≤ 100000 ∧ capb ≤ 100000) (h1 : f.length ≤ cap) (h2 : f.length ≤ capb) (hm : ∀ t ∈ f, okm t.1 ∧ ¬ hi t.1)
    (hq : ∀ I', off3 I0 I' a → Has I' a (lowT f) → Q S I' R) : CV G MX5_becomeLowest [vR a, vR b] S I0 R Q := by
  obtain ⟨t0, r0, r1, t1, t2, l1, l2⟩ := id h
  obtain ⟨s0, q0, q1, s1, s2, k1, k2⟩ := id hb
  have hms : okms f := fun t ht => (hm t ht).1
  have loop : ∀ (n i : Nat) (I : MI), f.length - i = n → i ≤ f.length → off3 I0 I a → Has I a (f.take i) → (∀ t ∈ f.take i, dg t.1 = lowL f) → LX5_becomeLowest_7 G a b (i : Int) S I R Q := by
    intro n
    induction n with
    | zero =>
      intro i I hn hi ho ha hl
      have hfb := hf.off ho hd
      refine bX5_becomeLowest_7 ⟨s0, ?_⟩
      rw [hfb.1]
      refine br_t (by omega) (hq I ho ?_)
      unfold lowT
      rw [tw_take (i := i) (fun t ht => decide_eq_true (hl t ht)) (Or.inl (by omega))]
      exact ha
    | succ n ih =>
      intro i I hn hi ho ha hl
      have hif : i < f.length := by omega
      have hfb := hf.off ho hd
      have hfi := hfb.at hif
      have hmi := hm _ (List.getElem_mem hif)
      refine bX5_becomeLowest_7 ⟨s0, ?_⟩
      rw [hfb.1, q0, q1, s1, s2, k1, k2]
      refine br_f (by omega) ⟨rfl, ⟨by omega, by omega⟩, p5low hb hfb h2, ?_⟩
      rw [show Int.toNat (i : Int) = i by omega, hfi.1, hfi.2, vdeg hmi.1.i, v5low hb hfb hms]
      refine ⟨fun c => hq I ho ?_, fun c => ⟨rfl, ⟨by omega, by omega⟩, t0, ?_⟩⟩
      · unfold lowT
        rw [tw_take (i := i) (fun t ht => decide_eq_true (hl t ht)) (Or.inr ⟨f[i], List.getElem?_eq_getElem hif, decide_eq_false c⟩)]
        exact ha
      · have c' : dg f[i].1 = lowL f := Decidable.not_not.mp c
        rw [add1 (by omega)]
        refine append_spec h ha hmi.1 hc.1 (fun I' ho' _ _ hh => ?_) (fun hbad => ?_)
        · refine ih (i + 1) I' (by omega) (by omega) (ho.tr ho') (by rw [take_succ_get hif]; exact hh) (fun t ht => ?_)
          rw [take_succ_get hif] at ht
          rcases List.mem_append.mp ht with ht | ht
          · exact hl t ht
          · rcases List.mem_singleton.mp ht with rfl
            exact c'
        · rcases hbad with hbad | hbad
          · rw [List.length_take] at hbad; omega
          · exact absurd hbad hmi.2
  refine bX5_becomeLowest ⟨t0, ?_⟩
  intro I2 e2
  exact loop f.length 0 I2 (by omega) (by omega) (off3.u e2 (by omega)) ⟨by rw [u_s e2]; rfl, fun i t ht => by simp at ht⟩ (fun t ht => by simp at ht)
/-- a term's derivative -/
def derT (p : Int) (w : Nat → Int) (v : Int) (t : Tm) : Option Tm := if t.2 * ex t.1 v % p = 0 then none else some (t.1 - vkey w v + 262143, t.2 * ex t.1 v % p)
def derL (p : Int) (w : Nat → Int) (v : Int) (f : List Tm) : List Tm := f.filterMap (derT p w v)
theorem ex_lt (m v : Int) : 0 ≤ ex m v ∧ ex m v < 64 := by
  have := ex_r m
  unfold ex
  split
  · omega
  · split <;> omega
theorem der_ok {w : Nat → Int} {v m : Int} (hw : wtOK w) (hg : gk w m) (hh : ¬ hi m) (hv : v = 0 ∨ v = 1 ∨ v = 2) (h1 : ex m v ≠ 0) : okm (m - vkey w v + 262143) ∧ ¬ hi (m - vkey w v + 262143) ∧ gk w (m - vkey w v + 262143) ∧ 0 ≤ vkey w v ∧ vkey w v < 500000000 := by
  have hr := ex_r m
  have hk := key_gk hg
  unfold hi at hh
  have e : m - vkey w v + 262143 = key w (exx m - if v = 0 then 1 else 0) (exy m - if v = 1 then 1 else 0) (exz m - if v = 2 then 1 else 0) ∧ (0 ≤ vkey w v ∧ vkey w v < 500000000) := by
    have hw0 := hw 0 (by omega)
    have hw1 := hw 1 (by omega)
    have hw2 := hw 2 (by omega)
    have n01 : ¬ ((0 : Int) = 1) := by decide
    have n02 : ¬ ((0 : Int) = 2) := by decide
    have n10 : ¬ ((1 : Int) = 0) := by decide
    have n12 : ¬ ((1 : Int) = 2) := by decide
    have n20 : ¬ ((2 : Int) = 0) := by decide
    have n21 : ¬ ((2 : Int) = 1) := by decide
    unfold key pk at hk
    rcases hv with rfl | rfl | rfl
    · unfold vkey key pk
      rw [if_pos rfl, if_neg n01, if_neg n02]
      simp only [Int.sub_mul, Int.one_mul, Int.zero_mul, Int.sub_zero, Int.mul_zero, Int.add_zero, Int.zero_add]
      omega
    · unfold vkey key pk
      rw [if_neg n10, if_pos rfl, if_neg n12]
      simp only [Int.sub_mul, Int.one_mul, Int.zero_mul, Int.sub_zero, Int.mul_zero, Int.add_zero, Int.zero_add]
      omega
    · unfold vkey key pk
      rw [if_neg n20, if_neg n21, if_pos rfl]
      simp only [Int.sub_mul, Int.one_mul, Int.zero_mul, Int.sub_zero, Int.mul_zero, Int.add_zero, Int.zero_add]
      omega
  have hx : 0 ≤ (exx m - if v = 0 then 1 else 0) ∧ (exx m - if v = 0 then 1 else 0) ≤ 30 ∧ 0 ≤ (exy m - if v = 1 then 1 else 0) ∧ (exy m - if v = 1 then 1 else 0) ≤ 30 ∧ 0 ≤ (exz m - if v = 2 then 1 else 0) ∧ (exz m - if v = 2 then 1 else 0) ≤ 30 := by
    unfold ex at h1
    rcases hv with rfl | rfl | rfl
    · simp at h1 ⊢; omega
    · simp at h1 ⊢; omega
    · simp at h1 ⊢; omega
  rw [e.1]
  refine ⟨okm_key hw (by omega) (by omega) (by omega), ?_, gk_key (by omega) (by omega) (by omega), e.2⟩
  unfold hi key
  rw [exx_pk (by omega) (by omega) (by omega), exy_pk (by omega) (by omega) (by omega), exz_pk (by omega) (by omega) (by omega)]
  omega
theorem derivative_spec {I0 : MI} {r nu : Nat} {n v : Int} {w : Nat → Int} (h : PolyS S R a cap) (hb : PolyS S R b capb) (hf : Has I0 b f) (hd : apt b a) (hc : cap ≤ 100000 ∧ capb ≤ 100000) (h1 : f.length ≤ cap) (h2 : f.length ≤ capb)
    (hm : ∀ t ∈ f, okm t.1 ∧ ¬ hi t.1 ∧ gk w t.1 ∧ 0 ≤ t.2 ∧ t.2 < p) (hr : RingL S R r) (hrv : RingV I0 r n w) (hnu : R r 1 = nu) (hN : NumS S I0 nu p) (hv : v = 0 ∨ v = 1 ∨ v = 2) (hx : ∀ x, x = nu ∨ x = r ∨ x = r + 2 → x ≠ a ∧ x ≠ a + 1 ∧ x ≠ a + 2)
    (hq : ∀ I', off3 I0 I' a → Has I' a (derL p w v f) → Q S I' R) : CV G MX5_becomeDerivative [vR a, vR b, vI v, vR r] S I0 R Q := by
  obtain ⟨t0, r0, r1, t1, t2, l1, l2⟩ := id h
  obtain ⟨s0, q0, q1, s1, s2, k1, k2⟩ := id hb
  have hp0 : 0 < p := by have := hN.2.2; omega
  have loop : ∀ (k i : Nat) (I : MI), f.length - i = k → i ≤ f.length → off3 I0 I a → Has I a (derL p w v (f.take i)) → LX5_becomeDerivative_15 G a b v r (vkey w v) (i : Int) S I R Q := by
    intro k
    induction k with
    | zero =>
      intro i I hn hi ho ha
      have hfb := hf.off ho hd
      refine bX5_becomeDerivative_15 ⟨s0, ?_⟩
      rw [hfb.1]
      refine br_t (by omega) (hq I ho ?_)
      rw [List.take_of_length_le (by omega)] at ha
      exact ha
    | succ k ih =>
      intro i I hn hi ho ha
      have hif : i < f.length := by omega
      have hfb := hf.off ho hd
      have hfi := hfb.at hif
      have hmi := hm _ (List.getElem_mem hif)
      have hnx := hx nu (Or.inl rfl)
      have hN' : NumS S I nu p := ⟨hN.1, by rw [ho nu hnx.1 hnx.2.1 hnx.2.2]; exact hN.2.1, hN.2.2⟩
      have hel := ex_lt f[i].1 v
      have hpp := hN.2.2
      have hder : derL p w v (f.take (i + 1)) = derL p w v (f.take i) ++ (derT p w v f[i]).toList := by
        unfold derL
        rw [take_succ_get hif, List.filterMap_append]
        congr 1
      refine bX5_becomeDerivative_15 ⟨s0, ?_⟩
      rw [hfb.1, q0, q1, s1, s2, k1, k2, hnu]
      refine br_f (by omega) ⟨hr.1, rfl, ⟨by omega, by omega⟩, rfl, ⟨by omega, by omega⟩, hN.1, p4t hN', ?_⟩
      rw [show Int.toNat (i : Int) = i by omega, hfi.1, hfi.2, vexp hmi.1.i hv, v4t' hN' ⟨hmi.2.2.2.1, by have := hmi.2.2.2.2; omega⟩ ⟨hel.1, by omega⟩, add1 (by omega)]
      refine ⟨fun c => ?_, fun c => ⟨t0, ?_⟩⟩
      · refine ih (i + 1) I (by omega) (by omega) ho ?_
        rw [hder, show derT p w v f[i] = none from if_pos c]
        simpa using ha
      · have he0 : ex f[i].1 v ≠ 0 := fun e => c (by rw [e, Int.mul_zero, Int.zero_emod])
        obtain ⟨d1, d2, d3, d4⟩ := der_ok hrv.2.2.2 hmi.2.2.1 hmi.2.1 hv he0
        rw [vby ⟨hmi.1.1, hmi.1.2.1⟩ d4]
        have hsome : derT p w v f[i] = some (f[i].1 - vkey w v + 262143, f[i].2 * ex f[i].1 v % p) := if_neg c
        refine append_spec h ha d1 hc.1 (fun I' ho' _ _ hh => ?_) (fun hbad => ?_)
        · refine ih (i + 1) I' (by omega) (by omega) (ho.tr ho') ?_
          rw [hder, hsome]
          exact hh
        · rcases hbad with hbad | hbad
          · have : (derL p w v (f.take i)).length ≤ (f.take i).length := List.length_filterMap_le _ _
            rw [List.length_take] at this; omega
          · exact absurd hbad d2
  refine bX5_becomeDerivative ⟨t0, ?_⟩
  intro I2 e2
  have ho : off3 I0 I2 a := off3.u e2 (by omega)
  have hxr := hx r (Or.inr (Or.inl rfl))
  have hxr2 := hx (r + 2) (Or.inr (Or.inr rfl))
  have hrv2 : RingV I2 r n w := ⟨by rw [ho r hxr.1 hxr.2.1 hxr.2.2]; exact hrv.1, hrv.2.1, fun i hi => by rw [ho (r + 2) hxr2.1 hxr2.2.1 hxr2.2.2]; exact hrv.2.2.1 i hi, hrv.2.2.2⟩
  refine ⟨hr.1, p6var hr hv, ?_⟩
  rw [v6var hr hrv2 hv]
  exact loop f.length 0 I2 (by omega) (by omega) ho ⟨by rw [u_s e2]; rfl, fun i t ht => by simp [derL] at ht⟩
end P52
