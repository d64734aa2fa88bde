/-! ===== what polynomials make below a degree ===== -/
theorem getDl {M : List Int} {c : Nat} (h : c < M.length) : M.getD c 0 = M[c] := by rw [List.getD_eq_getElem?_getD, List.getElem?_eq_getElem h]; rfl
theorem getDl_mem {M : List Int} {c : Nat} (h : c < M.length) : M.getD c 0 ∈ M := by rw [getDl h]; exact List.getElem_mem h
theorem inc_nd {M : List Int} (h : Inc M) : ∀ {i j : Nat} (hi : i < M.length) (hj : j < M.length), i < j → M.getD i 0 < M.getD j 0 := by
  intro i j hi hj hij
  rw [getDl hi, getDl hj]
  exact List.pairwise_iff_getElem.mp h i j hi hj hij
theorem inc_lt {M : List Int} (h : Inc M) {i j : Nat} (hi : i < M.length) (hj : j < M.length) (hlt : M.getD i 0 < M.getD j 0) : i < j := by
  rcases Nat.lt_trichotomy i j with q | q | q
  · exact q
  · subst q; omega
  · have := inc_nd h hj hi q; omega
theorem inc_eq {M : List Int} (h : Inc M) {i j : Nat} (hi : i < M.length) (hj : j < M.length) (he : M.getD i 0 = M.getD j 0) : i = j := by
  rcases Nat.lt_trichotomy i j with q | q | q
  · have := inc_nd h hi hj q; omega
  · exact q
  · have := inc_nd h hj hi q; omega
theorem idx_at {M : List Int} {k : Int} (hk : k ∈ M) : M.getD (M.idxOf k) 0 = k := by
  have h := List.idxOf_lt_length_of_mem hk
  rw [getDl h, List.getElem_idxOf h]
theorem ext_at {M : List Int} (h : Inc M) {c : Nat} (hc : c < M.length) (x : Vc) : ext M x (M.getD c 0) = x c := by
  have hm := getDl_mem hc
  unfold ext
  rw [if_pos hm, inc_eq h (List.idxOf_lt_length_of_mem hm) hc (idx_at hm)]
theorem cf_ne {L : List Tm} {k : Int} (h : cf L k ≠ 0) : ∃ t ∈ L, t.1 = k := by
  refine Classical.byContradiction fun q => h (cf_none fun t ht e => q ⟨t, ht, e⟩)
/-- a key of few exponents -/
def VK (n : Int) (w : Nat → Int) (m : Int) (b : Int) : Prop := gk w m ∧ inV n m ∧ exx m ≤ b ∧ exy m ≤ b ∧ exz m ≤ b
section GEN
variable {p n : Int} {w : Nat → Int} {D : Nat} {f : List Tm} {m : Int}
theorem vk_ok {v : Nat} (hn : 1 ≤ n ∧ n ≤ 3) (hv : (v : Int) < n) : VK n w (vkey w (v : Int)) 1 ∧ exx (vkey w (v : Int)) = (if v = 0 then 1 else 0) ∧ exy (vkey w (v : Int)) = (if v = 1 then 1 else 0) ∧ exz (vkey w (v : Int)) = (if v = 2 then 1 else 0) := by
  have h3 : v = 0 ∨ v = 1 ∨ v = 2 := by omega
  rcases h3 with rfl | rfl | rfl
  · have e : vkey w ((0 : Nat) : Int) = key w 1 0 0 := rfl
    rw [e]
    have hx : exx (key w 1 0 0) = 1 := exx_pk (by omega) (by omega) (by omega)
    have hy : exy (key w 1 0 0) = 0 := exy_pk (by omega) (by omega) (by omega)
    have hz : exz (key w 1 0 0) = 0 := exz_pk (by omega) (by omega) (by omega)
    exact ⟨⟨gk_key (by omega) (by omega) (by omega), ⟨fun _ => hy, fun _ => hz⟩, by omega, by omega, by omega⟩, hx, hy, hz⟩
  · have e : vkey w ((1 : Nat) : Int) = key w 0 1 0 := rfl
    rw [e]
    have hx : exx (key w 0 1 0) = 0 := exx_pk (by omega) (by omega) (by omega)
    have hy : exy (key w 0 1 0) = 1 := exy_pk (by omega) (by omega) (by omega)
    have hz : exz (key w 0 1 0) = 0 := exz_pk (by omega) (by omega) (by omega)
    exact ⟨⟨gk_key (by omega) (by omega) (by omega), ⟨fun _ => by omega, fun _ => hz⟩, by omega, by omega, by omega⟩, hx, hy, hz⟩
  · have e : vkey w ((2 : Nat) : Int) = key w 0 0 1 := rfl
    rw [e]
    have hx : exx (key w 0 0 1) = 0 := exx_pk (by omega) (by omega) (by omega)
    have hy : exy (key w 0 0 1) = 0 := exy_pk (by omega) (by omega) (by omega)
    have hz : exz (key w 0 0 1) = 1 := exz_pk (by omega) (by omega) (by omega)
    exact ⟨⟨gk_key (by omega) (by omega) (by omega), ⟨fun _ => hy, fun _ => by omega⟩, by omega, by omega, by omega⟩, hx, hy, hz⟩
/-- where a product of f and m is not 0 -/
theorem shf_ne {k : Int} (hf : okQ p n w f) (hm : VK n w m 33) (h : shf m (cf f) k ≠ 0) : ∃ t ∈ f, k = t.1 + m - 262143 ∧ gk w k ∧ inV n k ∧ exx k = exx t.1 + exx m ∧ exy k = exy t.1 + exy m ∧ exz k = exz t.1 + exz m ∧ dg k = dg t.1 + dg m := by
  obtain ⟨t, ht, e⟩ := cf_ne h
  have ok := hf.2.1 t ht
  have r := ok.r
  have hh := hm.2.2
  have mk := mul_key ok.2.2.1 hm.1 (by omega) (by omega) (by omega)
  have ek : k = t.1 + m - 262143 := by omega
  rw [← ek] at mk
  refine ⟨t, ht, ek, mk.1, ?_, mk.2⟩
  have v1 := ok.2.2.2
  have v2 := hm.2.1
  unfold inV at v1 v2 ⊢
  omega
theorem vec_zero (hf : okQ p n w f) (hm : VK n w m 33) (h : ∀ t ∈ f, ∀ k ∈ ml n w D, dg k < dg t.1 + dg m) : ∀ c, c < (ml n w D).length → vecM (ml n w D) (shf m (cf f)) c = 0 := by
  intro c hc
  refine Classical.byContradiction fun q => ?_
  obtain ⟨t, ht, -, -, -, -, -, -, e⟩ := shf_ne hf hm q
  have := h t ht _ (getDl_mem hc)
  omega
theorem vec_zero_deg (hw : wtOK w) (hD : D < 60) (hf : okQ p n w f) (hm : VK n w m 33) (h : (D : Int) ≤ dg m) : ∀ c, c < (ml n w D).length → vecM (ml n w D) (shf m (cf f)) c = 0 :=
  vec_zero hf hm (fun t ht k hk => by
    have h1 := of_mem hD hk
    have h2 := dg_nn hw (hf.2.1 t ht).2.2.1
    omega)
theorem shf_shf (a b : Int) (φ : Int → Int) : shf a (shf b φ) = shf (b + a - 262143) φ := by
  funext k
  unfold shf
  congr 1
  omega
theorem vec_mul {v : Nat} (hw : wtOK w) (hD : D ≤ 25) (hn : 1 ≤ n ∧ n ≤ 3) (hv : (v : Int) < n) (hf : okQ p n w f) (hm : VK n w m 25) : ∀ c, c < (ml n w D).length → mulv (ml n w D) (vkey w (v : Int)) (vecM (ml n w D) (shf m (cf f))) c = vecM (ml n w D) (shf (m + vkey w (v : Int) - 262143) (cf f)) c := by
  intro c hc
  have hvk := vk_ok (w := w) hn hv
  rw [← shf_shf]
  unfold mulv ext
  by_cases q : (ml n w D).getD c 0 - vkey w (v : Int) + 262143 ∈ ml n w D
  · rw [if_pos q]
    show shf m (cf f) ((ml n w D).getD ((ml n w D).idxOf ((ml n w D).getD c 0 - vkey w (v : Int) + 262143)) 0) = _
    rw [idx_at q]; rfl
  · rw [if_neg q]
    refine Classical.byContradiction fun z => q ?_
    have z2 : shf m (cf f) ((ml n w D).getD c 0 - vkey w (v : Int) + 262143) ≠ 0 := fun y => z y.symm
    obtain ⟨t, ht, -, g, iv, hx, hy, hz, -⟩ := shf_ne hf ⟨hm.1, hm.2.1, by have := hm.2.2; omega, by have := hm.2.2; omega, by have := hm.2.2; omega⟩ z2
    have r := (hf.2.1 t ht).r
    have hm2 := hm.2.2
    have hv2 := hvk.1.2.2
    have mk := mul_key g hvk.1.1 (by omega) (by omega) (by omega)
    rw [show (ml n w D).getD c 0 - vkey w (v : Int) + 262143 + vkey w (v : Int) - 262143 = (ml n w D).getD c 0 by omega] at mk
    have h1 := of_mem (by omega) (getDl_mem hc)
    have h2 := dg_nn hw hvk.1.1
    exact mem_of hw g iv (by omega)
def Gen (n : Int) (w : Nat → Int) (F : List Tm → Prop) (D : Nat) : Vc → Prop := fun y => ∃ f m, F f ∧ m ∈ ml n w D ∧ y = vecM (ml n w D) (shf m (cf f))
/-- the space that they make below D -/
def GenU (p n : Int) (w : Nat → Int) (F : List Tm → Prop) (D : Nat) : Vc → Prop := Spn p (ml n w D).length (Gen n w F D)
variable {F : List Tm → Prop}
theorem sub_of_zero {W : Nat} {U : Vc → Prop} {x : Vc} (h : Sub p W U) (hx : ∀ c, c < W → x c = 0) : U x := h.2.2.2 _ _ (fun c hc => by rw [hx c hc]) h.1
theorem vk_mem (hD : D ≤ 25) (h : m ∈ ml n w D) : VK n w m 24 := by
  have := of_mem (by omega) h
  exact ⟨this.1, this.2.1, by omega, by omega, by omega⟩
theorem gen_mul {v : Nat} {y : Vc} (hw : wtOK w) (hD : D ≤ 25) (hn : 1 ≤ n ∧ n ≤ 3) (hv : (v : Int) < n) (hF : ∀ f, F f → okQ p n w f) (hy : GenU p n w F D y) : GenU p n w F D (mulv (ml n w D) (vkey w (v : Int)) y) := by
  have hS : Sub p (ml n w D).length (GenU p n w F D) := spn_sub
  refine spn_le (ext_sub (m := vkey w (v : Int)) hS) (fun t ht => ?_) hy
  obtain ⟨f, m, hf, hm, e⟩ := ht
  have k := vk_mem hD hm
  have hvk := vk_ok (w := w) hn hv
  have em := vec_mul hw hD hn hv (hF f hf) ⟨k.1, k.2.1, by have := k.2.2; omega, by have := k.2.2; omega, by have := k.2.2; omega⟩
  rw [e]
  refine hS.2.2.2 (vecM (ml n w D) (shf (m + vkey w (v : Int) - 262143) (cf f))) _ (fun c hc => by rw [em c hc]) ?_
  have hk2 := k.2.2
  have hv2 := hvk.1.2.2
  have mk := mul_key k.1 hvk.1.1 (by omega) (by omega) (by omega)
  have iv : inV n (m + vkey w (v : Int) - 262143) := by
    have v1 := k.2.1
    have v2 := hvk.1.2.1
    unfold inV at v1 v2 ⊢
    omega
  by_cases hd : dg (m + vkey w (v : Int) - 262143) < (D : Int)
  · exact spn_in ⟨f, _, hf, mem_of hw mk.1 iv hd, rfl⟩
  · exact sub_of_zero hS (vec_zero_deg hw (by omega) (hF f hf) ⟨mk.1, iv, by omega, by omega, by omega⟩ (by omega))
theorem shf_one (φ : Int → Int) : shf 262143 φ = φ := by funext k; unfold shf; congr 1; omega
/-- what holds them and is closed under the variables holds all -/
theorem gen_le {V : Vc → Prop} (hw : wtOK w) (hD : D ≤ 25) (hn : 1 ≤ n ∧ n ≤ 3) (hF : ∀ f, F f → okQ p n w f) (hV : Sub p (ml n w D).length V) (h1 : ∀ f, F f → V (vecM (ml n w D) (cf f))) (h2 : ∀ v : Nat, (v : Int) < n → ∀ y, V y → V (mulv (ml n w D) (vkey w (v : Int)) y)) : ∀ y, GenU p n w F D y → V y := by
  intro y hy
  refine spn_le hV (fun t ht => ?_) hy
  obtain ⟨f, m, hf, hm, e⟩ := ht
  rw [e]
  have all : ∀ (s : Nat) (m : Int), m ∈ ml n w D → exx m + exy m + exz m = (s : Int) → V (vecM (ml n w D) (shf m (cf f))) := by
    intro s
    induction s with
    | zero =>
      intro m hm hs
      have k := vk_mem hD hm
      have r := ex_r m
      have e0 := key_gk k.1
      rw [show exx m = 0 by omega, show exy m = 0 by omega, show exz m = 0 by omega] at e0
      have e1 : m = 262143 := by rw [e0]; unfold key pk; omega
      rw [e1, shf_one]
      exact h1 f hf
    | succ s ih =>
      intro m hm hs
      have k := vk_mem hD hm
      have r := ex_r m
      have hk2 := k.2.2
      have iv := k.2.1
      unfold inV at iv
      -- one variable of it
      have one : ∃ v : Nat, (v : Int) < n ∧ (if v = 0 then exx m else if v = 1 then exy m else exz m) > 0 ∧ v < 3 := by
        by_cases a : 0 < exx m
        · exact ⟨0, by omega, a, by omega⟩
        · by_cases b : 0 < exy m
          · exact ⟨1, by omega, b, by omega⟩
          · exact ⟨2, by omega, by show exz m > 0; omega, by omega⟩
      obtain ⟨v, hv, hpos, hv3⟩ := one
      have hvk := vk_ok (w := w) hn hv
      have sub : exx (vkey w (v : Int)) ≤ exx m ∧ exy (vkey w (v : Int)) ≤ exy m ∧ exz (vkey w (v : Int)) ≤ exz m ∧ exx (vkey w (v : Int)) + exy (vkey w (v : Int)) + exz (vkey w (v : Int)) = 1 := by
        rw [hvk.2.1, hvk.2.2.1, hvk.2.2.2]
        have : v = 0 ∨ v = 1 ∨ v = 2 := by omega
        rcases this with rfl | rfl | rfl
        · have h0 : exx m > 0 := hpos
          rw [if_pos rfl, if_neg (by decide), if_neg (by decide)]; omega
        · have h0 : exy m > 0 := hpos
          rw [if_neg (by decide), if_pos rfl, if_neg (by decide)]; omega
        · have h0 : exz m > 0 := hpos
          rw [if_neg (by decide), if_neg (by decide), if_pos rfl]; omega
      have ks := key_sub (w := w) (x := exx m) (y := exy m) (z := exz m) (a := exx (vkey w (v : Int))) (b := exy (vkey w (v : Int))) (c := exz (vkey w (v : Int)))
      rw [← key_gk k.1, ← key_gk hvk.1.1] at ks
      have rv := ex_r (vkey w (v : Int))
      generalize hm2 : m - vkey w (v : Int) + 262143 = m2 at *
      have g2 : gk w m2 := by rw [ks]; exact gk_key (by omega) (by omega) (by omega)
      have x2 : exx m2 = exx m - exx (vkey w (v : Int)) := by rw [ks]; exact exx_pk (by omega) (by omega) (by omega)
      have y2 : exy m2 = exy m - exy (vkey w (v : Int)) := by rw [ks]; exact exy_pk (by omega) (by omega) (by omega)
      have z2 : exz m2 = exz m - exz (vkey w (v : Int)) := by rw [ks]; exact exz_pk (by omega) (by omega) (by omega)
      have mk := mul_key g2 hvk.1.1 (by omega) (by omega) (by omega)
      rw [show m2 + vkey w (v : Int) - 262143 = m by omega] at mk
      have hd := dg_nn hw hvk.1.1
      have hdm := of_mem (by omega) hm
      have in2 : m2 ∈ ml n w D := mem_of hw g2 (by unfold inV; omega) (by omega)
      have hh := h2 v hv _ (ih m2 in2 (by omega))
      have em := vec_mul hw hD hn hv (hF f hf) (m := m2) ⟨g2, by unfold inV; omega, by omega, by omega, by omega⟩
      rw [show m2 + vkey w (v : Int) - 262143 = m by omega] at em
      exact hV.2.2.2 _ _ (fun c hc => by rw [em c hc]) hh
  have k := vk_mem hD hm
  have r := ex_r m
  exact all (exx m + exy m + exz m).toNat m hm (by omega)
end GEN

