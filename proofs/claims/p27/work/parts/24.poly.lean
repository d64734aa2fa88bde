/-! ===== X5: a polynomial's three cells ===== -/
def PolyS (S : Sh) (R : MR) (a cap : Nat) : Prop := sT S a = 5 ∧ R a 0 = a + 1 ∧ R a 1 = a + 2 ∧ sT S (a + 1) = 21 ∧ sT S (a + 2) = 21 ∧ sL S (a + 1) = cap ∧ sL S (a + 2) = cap
def Has (I : MI) (a : Nat) (L : List Tm) : Prop := I a 2 = (L.length : Int) ∧ ∀ i t, L[i]? = some t → I (a + 1) i = t.1 ∧ I (a + 2) i = t.2
/-- but for a polynomial's cells all stays -/
def off3 (I I' : MI) (a : Nat) : Prop := ∀ b, b ≠ a → b ≠ a + 1 → b ≠ a + 2 → I' b = I b
theorem off3.rf {I : MI} {a : Nat} : off3 I I a := fun _ _ _ _ => rfl
theorem off3.tr {I I1 I2 : MI} {a : Nat} (h : off3 I I1 a) (h2 : off3 I1 I2 a) : off3 I I2 a := fun b x y z => (h2 b x y z).trans (h b x y z)
theorem off3.u {I I' : MI} {a b k : Nat} {v : Int} (e : I' = up2 I b k v) (hb : b = a ∨ b = a + 1 ∨ b = a + 2) : off3 I I' a := fun c h1 h2 h3 => u_n e (by omega)
/-- two polynomials apart -/
def apt (a b : Nat) : Prop := a + 2 < b ∨ b + 2 < a
theorem Has.off {I I' : MI} {a b : Nat} {L : List Tm} (h : Has I a L) (ho : off3 I I' b) (hd : apt a b) : Has I' a L := by
  unfold apt at hd
  refine ⟨by rw [ho a (by omega) (by omega) (by omega)]; exact h.1, fun i t ht => ?_⟩
  rw [ho (a + 1) (by omega) (by omega) (by omega), ho (a + 2) (by omega) (by omega) (by omega)]
  exact h.2 i t ht
theorem Has.at {I : MI} {a : Nat} {L : List Tm} (h : Has I a L) {i : Nat} (hi : i < L.length) : I (a + 1) i = (L[i]).1 ∧ I (a + 2) i = (L[i]).2 := h.2 i L[i] (List.getElem?_eq_getElem hi)
/-- a monomial of ours -/
def okm (m : Int) : Prop := 0 ≤ m ∧ m < 500000000 ∧ exx m < 63 ∧ exy m < 63 ∧ exz m < 63
theorem okm.i {m : Int} (h : okm m) : InR m := by unfold okm at h; unfold InR; omega
theorem add1 {n : Nat} (h : n < 1000000) : w32 ((n : Int) + 1) = ((n + 1 : Nat) : Int) := by rw [w32_id (by omega)]; omega
section P5
variable {G : Gl} {S : Sh} {I : MI} {R : MR} {a b cap capb : Nat} {L f g : List Tm} {m c p : Int}
theorem append_spec {Q : Sh → MI → MR → Int → Prop} (h : PolyS S R a cap) (hL : Has I a L) (hm : okm m) (hcap : cap ≤ 100000)
    (hq : ∀ I', off3 I I' a → L.length < cap → ¬ hi m → Has I' a (L ++ [(m, c)]) → Q S I' R 1) (hf : cap ≤ L.length ∨ hi m → Q S I R 0) : CI G MX5_append [vR a, vI m, vI c] S I R Q := by
  obtain ⟨t0, r0, r1, t1, t2, l1, l2⟩ := h
  obtain ⟨n0, hc⟩ := id hL
  refine bX5_append ⟨t0, ?_⟩
  rw [r0, r1, t1, l1, n0]
  refine ⟨by decide, ?_⟩
  by_cases hc1 : (cap : Int) ≤ (L.length : Int)
  · exact br_t hc1 (hf (Or.inl (by omega)))
  · refine br_f hc1 ?_
    by_cases hh : hi m
    · exact br_f (fun e => (vhi hm.i hm.2.2.1 hm.2.2.2.1 hm.2.2.2.2).1.mp e hh) (hf (Or.inr hh))
    · refine br_t ((vhi hm.i hm.2.2.1 hm.2.2.2.1 hm.2.2.2.2).1.mpr hh) ?_
      refine ⟨rfl, ⟨by omega, by omega⟩, ?_⟩
      intro I30 e30
      have k30 : I30 a = I a := u_n e30 (by omega)
      rw [k30, n0, t2, l2]
      refine ⟨rfl, ⟨by omega, by omega⟩, ?_⟩
      intro I40 e40 I48 e48
      have k40 : I40 a = I a := (u_n e40 (by omega)).trans k30
      rw [k40, n0, add1 (by omega)] at e48
      refine hq I48 (((off3.u e30 (by omega)).tr (off3.u e40 (by omega))).tr (off3.u e48 (by omega))) (by omega) hh ⟨?_, ?_⟩
      · rw [u_s e48, List.length_append]; rfl
      · intro i t ht
        rw [u_n e48 (by omega), u_n e48 (by omega), u_n e40 (show a + 1 ≠ a + 2 by omega)]
        by_cases hi2 : i < L.length
        · rw [List.getElem?_append_left hi2] at ht
          have h1 := hc i t ht
          rw [u_o e30 (by omega), u_o e40 (by omega), u_n e30 (by omega)]
          exact h1
        · rw [List.getElem?_append_right (by omega)] at ht
          have h3 : i - L.length < 1 := (List.getElem?_eq_some_iff.mp ht).1
          have h4 : i = L.length := by omega
          subst h4
          rw [Nat.sub_self] at ht
          cases Option.some.inj ht
          rw [show Int.toNat (L.length : Int) = L.length by omega] at e30 e40
          exact ⟨u_s e30, u_s e40⟩
theorem clear_spec {Q : Sh → MI → MR → Prop} (h : PolyS S R a cap) (hq : ∀ I', off3 I I' a → Has I' a [] → Q S I' R) : CV G MX5_clear [vR a] S I R Q := by
  refine bX5_clear ⟨h.1, ?_⟩
  intro I2 e2
  exact hq I2 (off3.u e2 (by omega)) ⟨by rw [u_s e2]; rfl, fun i t ht => by simp at ht⟩
theorem becomeNumber_spec {Q : Sh → MI → MR → Prop} (h : PolyS S R a cap) (hcap : 1 ≤ cap ∧ cap ≤ 100000) (hq : ∀ I', off3 I I' a → Has I' a [(262143, c)] → Q S I' R) : CV G MX5_becomeNumber [vR a, vI c] S I R Q := by
  refine bX5_becomeNumber ⟨h.1, ?_⟩
  intro I2 e2
  have ho : ¬ hi 262143 := by unfold hi exx exy exz eM; omega
  refine append_spec (L := []) h ⟨by rw [u_s e2]; rfl, fun i t ht => by simp at ht⟩ (by unfold okm exx exy exz eM; omega) hcap.2 (fun I' h1 _ _ h2 => ?_) (fun hx => ?_)
  · exact hq I' ((off3.u e2 (by omega)).tr h1) h2
  · rcases hx with hx | hx
    · simp at hx; omega
    · exact absurd hx ho
/-- its low degree -/
def lowL (L : List Tm) : Int := match L with
  | [] => -1
  | t :: _ => dg t.1
def highL (L : List Tm) : Int := match L.getLast? with
  | none => -1
  | some t => dg t.1
def ecL (L : List Tm) : Int := if L = [] then -1 else highL L - lowL L
def okms (L : List Tm) : Prop := ∀ t ∈ L, okm t.1
theorem p5low (h : PolyS S R a cap) (hL : Has I a L) (hcap : L.length ≤ cap) : pX5_low S I R a := by
  obtain ⟨t0, r0, r1, t1, t2, l1, l2⟩ := h
  refine ⟨t0, ?_⟩
  rw [r0, t1, l1, hL.1]
  exact ⟨fun _ => trivial, fun _ => ⟨rfl, ⟨by decide, by omega⟩, trivial⟩⟩
theorem v5low (h : PolyS S R a cap) (hL : Has I a L) (hm : okms L) : vX5_low I R a = lowL L := by
  unfold vX5_low
  rw [h.2.1, hL.1]
  cases L with
  | nil => rfl
  | cons t L =>
    have h0 := hL.2 0 t rfl
    rw [if_neg (by rw [List.length_cons]; omega), show Int.toNat 0 = 0 from rfl, h0.1, vdeg (hm t List.mem_cons_self).i]
    rfl
theorem p5high (h : PolyS S R a cap) (hL : Has I a L) (hcap : L.length ≤ cap) (hcap2 : cap ≤ 100000) : pX5_high S I R a := by
  obtain ⟨t0, r0, r1, t1, t2, l1, l2⟩ := h
  refine ⟨t0, ?_⟩
  rw [r0, t1, l1, hL.1]
  refine ⟨fun _ => trivial, fun _ => ?_⟩
  rw [w32_id (by omega)]
  exact ⟨rfl, ⟨by omega, by omega⟩, trivial⟩
theorem v5high (h : PolyS S R a cap) (hL : Has I a L) (hm : okms L) (hcap : L.length ≤ 100000) : vX5_high I R a = highL L := by
  unfold vX5_high highL
  rw [h.2.1, hL.1]
  cases hl : L.getLast? with
  | none =>
    have : L = [] := List.getLast?_eq_none_iff.mp hl
    subst this
    rfl
  | some t =>
    have hne : L ≠ [] := fun e => by subst e; cases hl
    have hlen : 0 < L.length := List.length_pos_iff.mpr hne
    rw [List.getLast?_eq_getElem?] at hl
    have h0 := hL.2 _ t hl
    rw [if_neg (by omega), w32_id (by omega), show Int.toNat ((L.length : Int) - 1) = L.length - 1 by omega, h0.1, vdeg (hm t (List.mem_of_getElem? hl)).i]
theorem deg_r {m : Int} (h : okm m) : 0 ≤ dg m ∧ dg m < 2000 := by
  unfold okm at h
  unfold dg
  omega
theorem low_r (hm : okms L) : -1 ≤ lowL L ∧ lowL L < 2000 := by
  cases L with
  | nil => show -1 ≤ (-1 : Int) ∧ (-1 : Int) < 2000; omega
  | cons t L => have := deg_r (hm t List.mem_cons_self); show -1 ≤ dg t.1 ∧ dg t.1 < 2000; omega
theorem high_r (hm : okms L) : -1 ≤ highL L ∧ highL L < 2000 := by
  unfold highL
  split
  · omega
  · rename_i t ht
    have := deg_r (hm t (List.mem_of_getLast? ht)); omega
theorem p5ec (h : PolyS S R a cap) (hL : Has I a L) (hcap : L.length ≤ cap) (hcap2 : cap ≤ 100000) : pX5_ecart S I R a := by
  exact ⟨h.1, fun _ => trivial, fun _ => ⟨p5high h hL hcap hcap2, p5low h hL hcap, trivial⟩⟩
theorem v5ec (h : PolyS S R a cap) (hL : Has I a L) (hm : okms L) (hcap : L.length ≤ 100000) : vX5_ecart I R a = ecL L := by
  have h1 := low_r hm
  have h2 := high_r hm
  unfold vX5_ecart ecL
  rw [hL.1, v5high h hL hm hcap, v5low h hL hm]
  cases L with
  | nil => rfl
  | cons t L =>
    rw [if_neg (by rw [List.length_cons]; omega), if_neg (by simp), w32_id (by omega)]
/-- it becomes another one -/
theorem become_spec {Q : Sh → MI → MR → Prop} (h : PolyS S R a cap) (hb : PolyS S R b capb) (hL : Has I b L) (hd : apt b a) (h1 : L.length ≤ cap) (h2 : L.length ≤ capb) (hc : cap ≤ 100000 ∧ capb ≤ 100000)
    (hq : ∀ I', off3 I I' a → Has I' a L → Q S I' R) : CV G MX5_become [vR a, vR b] S I R Q := by
  obtain ⟨t0, r0, r1, t1, t2, l1, l2⟩ := h
  obtain ⟨s0, q0, q1, s1, s2, k1, k2⟩ := hb
  unfold apt at hd
  refine bX5_become ⟨s0, t0, ?_⟩
  rw [r0, r1, q0, q1, t1, t2, s1, s2, l1, l2, k1, k2, hL.1]
  refine ⟨by decide, ?_⟩
  intro I13 e13
  rw [show min (L.length : Int) (cap : Int) = (L.length : Int) by omega] at e13
  rw [u_s e13]
  refine ⟨rfl, rfl, by omega, by omega, by omega, by omega, ?_⟩
  intro I30 e30
  have k30 : ∀ c, c ≠ a + 1 → I30 c = I13 c := fun c hc => by rw [e30, up1_n hc]
  rw [k30 a (by omega), u_s e13]
  refine ⟨rfl, rfl, by omega, by omega, by omega, ?_⟩
  intro I47 e47
  have k47 : ∀ c, c ≠ a + 2 → I47 c = I30 c := fun c hc => by rw [e47, up1_n hc]
  refine hq I47 (fun c g1 g2 g3 => ?_) ⟨?_, fun i t ht => ?_⟩
  · rw [k47 c g3, k30 c g2, u_n e13 g1]
  · rw [k47 a (by omega), k30 a (by omega), u_s e13]
  · have hi : i < L.length := (List.getElem?_eq_some_iff.mp ht).1
    have hh := hL.2 i t ht
    constructor
    · rw [k47 (a + 1) (by omega), e30, up1_s]
      unfold va_cpy
      rw [if_pos (by omega), u_n e13 (by omega), show Int.toNat 0 + (i - Int.toNat 0) = i by show 0 + (i - 0) = i; omega]
      exact hh.1
    · rw [e47, up1_s]
      unfold va_cpy
      rw [if_pos (by omega), k30 (b + 2) (by omega), u_n e13 (by omega), show Int.toNat 0 + (i - Int.toNat 0) = i by show 0 + (i - 0) = i; omega]
      exact hh.2
end P5

