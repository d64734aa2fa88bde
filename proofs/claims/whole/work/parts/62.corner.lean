/-! ===== leads, corners, the stair: what both count ===== -/
section LC
variable {p n : Int} {w : Nat → Int} {F : List Tm → Prop} {N D : Nat}
theorem ml_div {D : Nat} (hw : wtOK w) (hD : D ≤ 25) (hn : 1 ≤ n ∧ n ≤ 3) {k : Int} {v : Nat} (hv : (v : Int) < n) (h : k ∈ ml n w D) (hx : exx (vkey w (v : Int)) ≤ exx k ∧ exy (vkey w (v : Int)) ≤ exy k ∧ exz (vkey w (v : Int)) ≤ exz k) : k - vkey w (v : Int) + 262143 ∈ ml n w D ∧ exx (k - vkey w (v : Int) + 262143) = exx k - exx (vkey w (v : Int)) ∧ exy (k - vkey w (v : Int) + 262143) = exy k - exy (vkey w (v : Int)) ∧ exz (k - vkey w (v : Int) + 262143) = exz k - exz (vkey w (v : Int)) := by
  have o := of_mem (by omega) h
  have vk := vk_ok (w := w) hn hv
  have e := key_sub (w := w) (x := exx k) (y := exy k) (z := exz k) (a := exx (vkey w (v : Int))) (b := exy (vkey w (v : Int))) (c := exz (vkey w (v : Int)))
  rw [← key_gk o.1, ← key_gk vk.1.1] at e
  have r1 := ex_r k
  have r2 := ex_r (vkey w (v : Int))
  rw [e]
  have hx1 : exx (key w (exx k - exx (vkey w (v : Int))) (exy k - exy (vkey w (v : Int))) (exz k - exz (vkey w (v : Int)))) = exx k - exx (vkey w (v : Int)) := exx_pk (by omega) (by omega) (by omega)
  have hy1 : exy (key w (exx k - exx (vkey w (v : Int))) (exy k - exy (vkey w (v : Int))) (exz k - exz (vkey w (v : Int)))) = exy k - exy (vkey w (v : Int)) := exy_pk (by omega) (by omega) (by omega)
  have hz1 : exz (key w (exx k - exx (vkey w (v : Int))) (exy k - exy (vkey w (v : Int))) (exz k - exz (vkey w (v : Int)))) = exz k - exz (vkey w (v : Int)) := exz_pk (by omega) (by omega) (by omega)
  have hg : gk w (key w (exx k - exx (vkey w (v : Int))) (exy k - exy (vkey w (v : Int))) (exz k - exz (vkey w (v : Int)))) := gk_key (by omega) (by omega) (by omega)
  refine ⟨mem_of hw hg ⟨fun q => ?_, fun q => ?_⟩ ?_, hx1, hy1, hz1⟩
  · rw [hy1]; have := o.2.1.1 q; omega
  · rw [hz1]; have := o.2.1.2 q; omega
  · have hd : dg (key w (exx k - exx (vkey w (v : Int))) (exy k - exy (vkey w (v : Int))) (exz k - exz (vkey w (v : Int)))) ≤ dg k := by
      have e1 : dg (key w (exx k - exx (vkey w (v : Int))) (exy k - exy (vkey w (v : Int))) (exz k - exz (vkey w (v : Int)))) = dgw w _ := hg
      have e2 : dg k = dgw w k := o.1
      rw [e1, e2]
      unfold dgw
      rw [hx1, hy1, hz1]
      have m0 : (exx k - exx (vkey w (v : Int))) * w 0 ≤ exx k * w 0 := Int.mul_le_mul_of_nonneg_right (by omega) (by have := hw 0 (by omega); omega)
      have m1 : (exy k - exy (vkey w (v : Int))) * w 1 ≤ exy k * w 1 := Int.mul_le_mul_of_nonneg_right (by omega) (by have := hw 1 (by omega); omega)
      have m2 : (exz k - exz (vkey w (v : Int))) * w 2 ≤ exz k * w 2 := Int.mul_le_mul_of_nonneg_right (by omega) (by have := hw 2 (by omega); omega)
      omega
    omega
/-- a variable by which a proper multiple may be divided -/
theorem dv_var {D : Nat} (hw : wtOK w) (hD : D ≤ 25) (hn : 1 ≤ n ∧ n ≤ 3) {a k : Int} (ha : a ∈ ml n w D) (h : k ∈ ml n w D) (hd : dvs a k) (hne : exx a + exy a + exz a < exx k + exy k + exz k) : ∃ v : Nat, (v : Int) < n ∧ k - vkey w (v : Int) + 262143 ∈ ml n w D ∧ dvs a (k - vkey w (v : Int) + 262143) ∧ exx (k - vkey w (v : Int) + 262143) + exy (k - vkey w (v : Int) + 262143) + exz (k - vkey w (v : Int) + 262143) = exx k + exy k + exz k - 1 := by
  have o := of_mem (by omega) h
  have r1 := ex_r a
  unfold dvs at hd
  have : (exx a < exx k) ∨ (exy a < exy k) ∨ (exz a < exz k) := by omega
  rcases this with q | q | q
  · have vk := vk_ok (w := w) (v := 0) hn (by omega)
    rw [if_pos rfl, if_neg (by decide), if_neg (by decide)] at vk
    have m := ml_div hw hD hn (v := 0) (by omega) h (by omega)
    exact ⟨0, by omega, m.1, by unfold dvs; omega, by omega⟩
  · have hv : ((1 : Nat) : Int) < n := by
      refine Int.lt_of_not_ge (fun z => ?_)
      have := o.2.1.1 (by omega); omega
    have vk := vk_ok (w := w) (v := 1) hn hv
    rw [if_neg (by decide), if_pos rfl, if_neg (by decide)] at vk
    have m := ml_div hw hD hn (v := 1) hv h (by omega)
    exact ⟨1, hv, m.1, by unfold dvs; omega, by omega⟩
  · have hv : ((2 : Nat) : Int) < n := by
      refine Int.lt_of_not_ge (fun z => ?_)
      have := o.2.1.2 (by omega); omega
    have vk := vk_ok (w := w) (v := 2) hn hv
    rw [if_neg (by decide), if_neg (by decide), if_pos rfl] at vk
    have m := ml_div hw hD hn (v := 2) hv h (by omega)
    exact ⟨2, hv, m.1, by unfold dvs; omega, by omega⟩
theorem key_eq {a k : Int} (ha : gk w a) (hk : gk w k) (h : exx a = exx k ∧ exy a = exy k ∧ exz a = exz k) : a = k := by
  rw [key_gk ha, key_gk hk, h.1, h.2.1, h.2.2]
/-- multiples of leads are leads -/
theorem lead_up (hw : wtOK w) (hD : D ≤ 25) (hn : 1 ≤ n ∧ n ≤ 3) (hF : ∀ f, F f → okQ p n w f) {a : Nat} (ha : led p n w F D a) : ∀ (s c : Nat), c < (ml n w D).length → dvs ((ml n w D).getD a 0) ((ml n w D).getD c 0) → exx ((ml n w D).getD c 0) + exy ((ml n w D).getD c 0) + exz ((ml n w D).getD c 0) - (exx ((ml n w D).getD a 0) + exy ((ml n w D).getD a 0) + exz ((ml n w D).getD a 0)) = (s : Int) → led p n w F D c := by
  have hinc : Inc (ml n w D) := ml_inc (by omega)
  have hal : a < (ml n w D).length := ha.1
  intro s
  induction s with
  | zero =>
    intro c hc hd hs
    have o1 := of_mem (by omega) (getDl_mem hal)
    have o2 := of_mem (by omega) (getDl_mem hc)
    unfold dvs at hd
    have e := key_eq o1.1 o2.1 (by omega)
    rw [← inc_eq hinc hal hc e]; exact ha
  | succ s ih =>
    intro c hc hd hs
    obtain ⟨v, hv, hm, hd2, hs2⟩ := dv_var hw hD hn (getDl_mem hal) (getDl_mem hc) hd (by omega)
    have hc2 := List.idxOf_lt_length_of_mem hm
    have e := idx_at hm
    have h2 := ih _ hc2 (by rw [e]; exact hd2) (by rw [e, hs2]; omega)
    exact lead_mul hw hD hn hF hv h2 hc (by rw [e]; omega)
theorem prd_iff (hw : wtOK w) (hD : D ≤ 25) (hn : 1 ≤ n ∧ n ≤ 3) (hF : ∀ f, F f → okQ p n w f) {c : Nat} (hc : c < (ml n w D).length) : prd p n w F D c ↔ ∃ a, a < (ml n w D).length ∧ a ≠ c ∧ led p n w F D a ∧ dvs ((ml n w D).getD a 0) ((ml n w D).getD c 0) := by
  have hinc : Inc (ml n w D) := ml_inc (by omega)
  constructor
  · rintro ⟨c0, v, hv, hl, e⟩
    have hc0 : c0 < (ml n w D).length := hl.1
    have o := of_mem (by omega) (getDl_mem hc0)
    have vk := vk_ok (w := w) hn hv
    have r := ex_r (vkey w (v : Int))
    have mk := mul_key o.1 vk.1.1 (by have := vk.1.2.2; omega) (by have := vk.1.2.2; omega) (by have := vk.1.2.2; omega)
    rw [← e] at mk
    refine ⟨c0, hc0, fun q => ?_, hl, by unfold dvs; omega⟩
    have := vkey_up hw hn hv
    rw [q] at e; omega
  · rintro ⟨a, hal, hac, hl, hd⟩
    have o1 := of_mem (by omega) (getDl_mem hal)
    have o2 := of_mem (by omega) (getDl_mem hc)
    have hlt : exx ((ml n w D).getD a 0) + exy ((ml n w D).getD a 0) + exz ((ml n w D).getD a 0) < exx ((ml n w D).getD c 0) + exy ((ml n w D).getD c 0) + exz ((ml n w D).getD c 0) := by
      refine Int.lt_of_not_ge (fun q => hac ?_)
      unfold dvs at hd
      exact inc_eq hinc hal hc (key_eq o1.1 o2.1 (by omega))
    obtain ⟨v, hv, hm, hd2, hs2⟩ := dv_var hw hD hn (getDl_mem hal) (getDl_mem hc) hd hlt
    have e := idx_at hm
    have hc2 := List.idxOf_lt_length_of_mem hm
    have r1 := ex_r ((ml n w D).getD a 0)
    unfold dvs at hd2
    refine ⟨_, v, hv, lead_up hw hD hn hF hl (exx ((ml n w D).getD c 0) + exy ((ml n w D).getD c 0) + exz ((ml n w D).getD c 0) - 1 - (exx ((ml n w D).getD a 0) + exy ((ml n w D).getD a 0) + exz ((ml n w D).getD a 0))).toNat _ hc2 (by rw [e]; exact hd2) (by rw [e, hs2]; omega), by rw [e]; omega⟩
theorem led_down (hw : wtOK w) (h : N ≤ D) (hD : D ≤ 25) (hF : ∀ f, F f → okQ p n w f) {c : Nat} (hc : c < (ml n w N).length) : led p n w F N c ↔ led p n w F D c := tr_lead hw h hD hF hc
theorem KdU.down {kd : Nat → Int} (hw : wtOK w) (hn : 1 ≤ n ∧ n ≤ 3) (h : N ≤ D) (hD : D ≤ 25) (hF : ∀ f, F f → okQ p n w f) (hk : KdU p n w F D kd) : KdU p n w F N kd := by
  intro c hc
  have hll := ml_le (n := n) (w := w) h
  have hcD : c < (ml n w D).length := by omega
  have k := hk c hcD
  have hinc : Inc (ml n w D) := ml_inc (by omega)
  refine ⟨k.1, k.2.1.trans (led_down hw h hD hF hc).symm, k.2.2.trans ⟨?_, ?_⟩⟩
  · rintro ⟨c0, v, hv, hl, e⟩
    have hc0 : c0 < (ml n w D).length := hl.1
    have hup := vkey_up hw hn hv
    have hlt : c0 < c := inc_lt hinc hc0 hcD (by omega)
    refine ⟨c0, v, hv, (led_down hw h hD hF (by omega)).mpr hl, ?_⟩
    rw [← ml_get h hc, ← ml_get h (show c0 < (ml n w N).length by omega)]; exact e
  · rintro ⟨c0, v, hv, hl, e⟩
    have hc0 : c0 < (ml n w N).length := hl.1
    refine ⟨c0, v, hv, (led_down hw h hD hF hc0).mp hl, ?_⟩
    rw [ml_get h hc, ml_get h hc0]; exact e
theorem ml_idx {d : Nat} (hw : wtOK w) (hN : N ≤ 25) (hd : d ≤ N) {c : Nat} (hc : c < (ml n w N).length) : dg ((ml n w N).getD c 0) < (d : Int) ↔ c < (ml n w d).length := by
  have hinc : Inc (ml n w N) := ml_inc (by omega)
  constructor
  · intro h
    have o := of_mem (by omega) (getDl_mem hc)
    have hm : (ml n w N).getD c 0 ∈ ml n w d := mem_of hw o.1 o.2.1 h
    have hi := List.idxOf_lt_length_of_mem hm
    have e := idx_at hm
    rw [← ml_get hd hi] at e
    have hll := ml_le (n := n) (w := w) hd
    have := inc_eq hinc (by omega) hc e
    omega
  · intro h
    have o := of_mem (D := d) (by omega) (getDl_mem h)
    rw [ml_get hd h]; exact o.2.2.2.1
end LC
theorem cnt_0 {kd : Nat → Int} {k : Int} {a : Nat} : ∀ {m : Nat}, cnt kd k a m = 0 ↔ ∀ c, a ≤ c → c < a + m → kd c ≠ k
  | 0 => ⟨fun _ c h1 h2 => by omega, fun _ => rfl⟩
  | m + 1 => by
    have ih := cnt_0 (kd := kd) (k := k) (a := a) (m := m)
    have r := cnt_r kd k a m
    rw [cnt]
    by_cases q : kd (a + m) = k
    · rw [if_pos q]
      exact ⟨fun z => by omega, fun z => absurd q (z (a + m) (by omega) (by omega))⟩
    · rw [if_neg q, Int.add_zero, ih]
      refine ⟨fun z c h1 h2 => ?_, fun z c h1 h2 => z c h1 (by omega)⟩
      by_cases e : c = a + m
      · rw [e]; exact q
      · exact z c h1 (by omega)
theorem cnt_congr {kd kd2 : Nat → Int} {k : Int} {a : Nat} : ∀ {m : Nat}, (∀ c, a ≤ c → c < a + m → (kd c = k ↔ kd2 c = k)) → cnt kd k a m = cnt kd2 k a m
  | 0, _ => rfl
  | m + 1, h => by
    rw [cnt, cnt, cnt_congr (m := m) (fun c h1 h2 => h c h1 (by omega))]
    have e := h (a + m) (by omega) (by omega)
    by_cases q : kd (a + m) = k
    · rw [if_pos q, if_pos (e.mp q)]
    · rw [if_neg q, if_neg (fun z => q (e.mpr z))]
theorem fnd_congr {kd kd2 : Nat → Int} {k : Int} : ∀ {m c : Nat} {x : Int}, (∀ j, c ≤ j → j < c + m → (kd j = k ↔ kd2 j = k)) → fnd kd k m c x = fnd kd2 k m c x
  | 0, _, _, _ => rfl
  | m + 1, c, x, h => by
    have e := h c (by omega) (by omega)
    rw [fnd, fnd, fnd_congr (m := m) (c := c + 1) (x := x) (fun j h1 h2 => h j (by omega) (by omega)), fnd_congr (m := m) (c := c + 1) (x := w32 (x + -1)) (fun j h1 h2 => h j (by omega) (by omega))]
    by_cases q : kd c = k
    · rw [if_pos q, if_pos (e.mp q)]
    · rw [if_neg q, if_neg (fun z => q (e.mpr z))]
theorem fnd_none {kd : Nat → Int} {k : Int} : ∀ {m c : Nat} {x : Int}, m ≤ 1000 → InR x → (x < 0 ∨ (m : Int) ≤ x) → fnd kd k m c x = -1
  | 0, _, _, _, _, _ => rfl
  | m + 1, c, x, hm, hr, hx => by
    rw [fnd]
    have h1 := fnd_none (kd := kd) (k := k) (m := m) (c := c + 1) (x := x) (by omega) hr (by omega)
    unfold InR at hr
    by_cases q : kd c = k
    · rw [if_pos q, if_neg (by omega)]
      by_cases e : x = -2147483648
      · have ew : w32 (x + -1) = 2147483647 := by rw [e]; decide
        rw [ew]
        exact fnd_none (by omega) (by unfold InR; omega) (by omega)
      · rw [w32_id (by omega)]
        exact fnd_none (by omega) (by unfold InR; omega) (by omega)
    · rw [if_neg q]; exact h1
