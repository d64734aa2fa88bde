/-! ===== X6: below, next, the whole ring ===== -/
theorem vkey_r {w : Nat → Int} {v : Int} (hw : wtOK w) : 0 ≤ vkey w v ∧ vkey w v < 4000000 := by
  have h0 := hw 0 (by omega)
  have h1 := hw 1 (by omega)
  have h2 := hw 2 (by omega)
  unfold vkey key pk
  by_cases a : v = 0
  · subst a
    rw [if_pos rfl, if_neg (by decide), if_neg (by decide)]; omega
  · rw [if_neg a]
    by_cases b : v = 1
    · subst b
      rw [if_pos rfl, if_neg (by decide)]; omega
    · rw [if_neg b]
      by_cases c : v = 2
      · rw [if_pos c]; omega
      · rw [if_neg c]; omega
/-- the list of all monomials below BOUND -/
abbrev mB (n : Int) (w : Nat → Int) : List Int := ml n w (bd n).toNat
def RingM (I : MI) (r : Nat) (n : Int) (w : Nat → Int) : Prop := (∀ i m, (ml n w ((bd n).toNat + 1))[i]? = some m → I (r + 3) i = m) ∧ ∀ d, d ≤ (bd n).toNat + 1 → I (r + 4) d = ((ml n w d).length : Int)
def RingN (I : MI) (r : Nat) (n : Int) (w : Nat → Int) (k : Nat) : Prop := ∀ v : Nat, v < k → ∀ (c : Nat) m, (mB n w)[c]? = some m → colP (mB n w) (m + vkey w (v : Int) - 262143) (I (r + 6 + v) c)
theorem RingM.p {I : MI} {r : Nat} {n : Int} {w : Nat → Int} (h : RingM I r n w) {i : Nat} {m : Int} (hm : (mB n w)[i]? = some m) : I (r + 3) i = m := by
  obtain ⟨M, e⟩ := ml_pre (n := n) (w := w) (D := (bd n).toNat) (E := (bd n).toNat + 1) (by omega)
  refine h.1 i m ?_
  rw [e, List.getElem?_append_left (List.getElem?_eq_some_iff.mp hm).1]
  exact hm
theorem mB_r {n : Int} {w : Nat → Int} {m : Int} (h : m ∈ mB n w) : gk w m ∧ 0 ≤ m ∧ m < 10000000 ∧ exx m ≤ 24 ∧ exy m ≤ 24 ∧ exz m ≤ 24 ∧ (n ≤ 1 → exy m = 0) ∧ (n ≤ 2 → exz m = 0) ∧ 0 ≤ dg m ∧ dg m < bd n := by
  obtain ⟨d, hd, hm⟩ := mem_ml.mp h
  have hb := bd_r n
  have hh := mdeg_r (by omega) hm
  have := hh.2.2.2.2.2.2.2
  refine ⟨hh.1, by omega, by omega, by omega, by omega, by omega, hh.2.2.2.2.2.1, hh.2.2.2.2.2.2.1, by omega, by omega⟩
/-- only one cell changes -/
def off1 (I I' : MI) (c : Nat) : Prop := ∀ b, b ≠ c → I' b = I b
section R63
variable {G : Gl} {S : Sh} {R : MR} {r : Nat} {n : Int} {w : Nat → Int} {Q : Sh → MI → MR → Prop}
theorem RingV.o {I I' : MI} (h : RingV I r n w) (h0 : I' r = I r) (h2 : I' (r + 2) = I (r + 2)) : RingV I' r n w :=
  ⟨by rw [h0]; exact h.1, h.2.1, fun i hi => by rw [h2]; exact h.2.2.1 i hi, h.2.2.2⟩
theorem RingM.o {I I' : MI} (h : RingM I r n w) (h3 : I' (r + 3) = I (r + 3)) (h4 : I' (r + 4) = I (r + 4)) : RingM I' r n w :=
  ⟨fun i m hm => by rw [h3]; exact h.1 i m hm, fun d hd => by rw [h4]; exact h.2 d hd⟩
theorem lp_loop {v : Nat} (h : RingL S R r) (hv3 : v < 3) : ∀ (k c : Nat) (I : MI), (mB n w).length - c = k → c ≤ (mB n w).length → RingV I r n w → RingM I r n w →
    (∀ (j : Nat) m, j < c → (mB n w)[j]? = some m → colP (mB n w) (m + vkey w (v : Int) - 262143) (I (r + 6 + v) j)) →
    (∀ I', off1 I I' (r + 6 + v) → (∀ (j : Nat) m, (mB n w)[j]? = some m → colP (mB n w) (m + vkey w (v : Int) - 262143) (I' (r + 6 + v) j)) → Q S I' R) →
    LX6_linkProducts_2 G r (v : Int) (c : Int) S I R Q := by
  intro k
  induction k with
  | zero =>
    intro c I hk hc hr hm hj hq
    have hw : vX6_width I R r = ((mB n w).length : Int) := (v6width h hr).trans (hm.2 _ (by omega))
    refine bX6_linkProducts_2 ⟨h.1, p6width h hr, ?_⟩
    rw [hw]
    exact br_t (by omega) (hq I (fun _ _ => rfl) (fun j m h1 => hj j m (by have := (List.getElem?_eq_some_iff.mp h1).1; omega) h1))
  | succ k ih =>
    intro c I hk hc hr hm hj hq
    have hl := (ml_bd hr.2.1 hr.2.2.2).1
    have hw : vX6_width I R r = ((mB n w).length : Int) := (v6width h hr).trans (hm.2 _ (by omega))
    have hcl : c < (mB n w).length := by omega
    have hcl2 : c < 120 := by have : (mB n w).length ≤ 120 := hl; omega
    have hget : (mB n w)[c]? = some (mB n w)[c] := List.getElem?_eq_getElem hcl
    have hmr := mB_r (List.getElem_mem hcl)
    have hvr := vkey_r hr.2.2.2 (v := (v : Int))
    have hv012 : (v : Int) = 0 ∨ (v : Int) = 1 ∨ (v : Int) = 2 := by omega
    have hr5 := h.2.2.2.2 v hv3
    have l165 := h.2.2.2.1.2.1
    refine bX6_linkProducts_2 ⟨h.1, p6width h hr, ?_⟩
    rw [hw]
    refine br_f (by omega) (br_f (by omega) ?_)
    rw [h.2.1.2.2.2, h.2.2.1.2.2.2, h.2.2.2.1.2.2.2, h.2.1.2.1, h.2.2.1.2.1, l165, show Int.toNat (c : Int) = c by omega, show Int.toNat (v : Int) = v by omega, hm.p hget, v6var h hr hv012, vtimes (by omega) (by omega), hr5.1]
    refine ⟨rfl, ⟨by omega, by omega⟩, rfl, ⟨by omega, by omega⟩, p6var h hv012, ?_⟩
    refine column_spec (T := []) h hr (hm.2 _ (by omega)) (fun i m => hm.p) hl (ml_inc (by have := bd_r n; omega)) (fun x hx => ?_)
    rw [hr5.2.1, hr5.2.2]
    refine ⟨rfl, ⟨by omega, by omega⟩, fun I41 e41 => ?_⟩
    rw [add1 (by omega)]
    refine ih (c + 1) I41 (by omega) (by omega) (hr.o (u_n e41 (by omega)) (u_n e41 (by omega))) (hm.o (u_n e41 (by omega)) (u_n e41 (by omega))) (fun j m hjc hjm => ?_) (fun I' h1 h2 => hq I' (fun b hb => by rw [h1 b hb, u_n e41 hb]) h2)
    by_cases hjc2 : j = c
    · subst hjc2
      rw [hget] at hjm
      cases Option.some.inj hjm
      rw [u_s e41]
      exact hx
    · rw [u_o e41 hjc2]
      exact hj j m (by omega) hjm
theorem linkProducts_spec {v : Nat} {I : MI} (h : RingL S R r) (hv3 : v < 3) (hr : RingV I r n w) (hm : RingM I r n w)
    (hq : ∀ I', off1 I I' (r + 6 + v) → (∀ (j : Nat) m, (mB n w)[j]? = some m → colP (mB n w) (m + vkey w (v : Int) - 262143) (I' (r + 6 + v) j)) → Q S I' R) : CV G MX6_linkProducts [vR r, vI (v : Int)] S I R Q :=
  bX6_linkProducts (lp_loop h hv3 (mB n w).length 0 I (by omega) (by omega) hr hm (fun j m hj => by omega) hq)
/-- what the ring's own methods may change -/
def offR (I I' : MI) (r : Nat) : Prop := (∀ b, b ≠ r → (b < r + 2 ∨ r + 8 < b) → I' b = I b) ∧ ∀ j, j ≠ 6 → I' r j = I r j
theorem offR.rf {I : MI} : offR I I r := ⟨fun _ _ _ => rfl, fun _ _ => rfl⟩
theorem offR.tr {I I1 I2 : MI} (h : offR I I1 r) (h2 : offR I1 I2 r) : offR I I2 r := ⟨fun b x y => (h2.1 b x y).trans (h.1 b x y), fun j x => (h2.2 j x).trans (h.2 j x)⟩
theorem offR.u {I I' : MI} {b k : Nat} {v : Int} (e : I' = up2 I b k v) (hb : r + 2 ≤ b ∧ b ≤ r + 8) : offR I I' r :=
  ⟨fun c h1 h2 => u_n e (by omega), fun j hj => by rw [u_n e (by omega)]⟩
theorem offM.toR {I I' : MI} (h : offM I I' r) : offR I I' r := ⟨fun b h1 h2 => h.1 b h1 (by omega), h.2⟩
/-- a whole ring -/
def RingT (I : MI) (r : Nat) (n : Int) (w : Nat → Int) : Prop := RingV I r n w ∧ RingM I r n w ∧ RingN I r n w n.toNat
theorem RingT.o {I I' : MI} (h : RingT I r n w) (h0 : I' r = I r) (hc : ∀ b, r + 2 ≤ b → b ≤ r + 8 → I' b = I b) : RingT I' r n w :=
  ⟨h.1.o h0 (hc _ (by omega) (by omega)), h.2.1.o (hc _ (by omega) (by omega)) (hc _ (by omega) (by omega)), fun v hv c m hm => by
    have := h.1.2.1
    rw [hc (r + 6 + v) (by omega) (by omega)]; exact h.2.2 v hv c m hm⟩
theorem wg79 (h : RingL S R r) : ∀ (k v : Nat) (I : MI), n.toNat - v = k → (v : Int) ≤ n → RingV I r n w → RingM I r n w → RingN I r n w v → (∀ I', offR I I' r → RingT I' r n w → Q S I' R) → LX6_weigh_79 G r (v : Int) S I R Q := by
  intro k
  induction k with
  | zero =>
    intro v I hk hle hr hm hn hq
    refine bX6_weigh_79 ⟨h.1, ?_⟩
    rw [hr.1]
    have e : n.toNat = v := by omega
    exact br_t (by omega) (hq I offR.rf ⟨hr, hm, by rw [e]; exact hn⟩)
  | succ k ih =>
    intro v I hk hle hr hm hn hq
    have h3 := hr.2.1
    refine bX6_weigh_79 ⟨h.1, ?_⟩
    rw [hr.1]
    refine br_f (by omega) (linkProducts_spec h (by omega) hr hm (fun I' ho hx => ?_))
    rw [add1 (by omega)]
    refine ih (v + 1) I' (by omega) (by omega) (hr.o (ho _ (by omega)) (ho _ (by omega))) (hm.o (ho _ (by omega)) (ho _ (by omega))) (fun u hu c m hc => ?_) (fun I2 h1 h2 => hq I2 (offR.tr ⟨fun b hb1 hb2 => ho b (by omega), fun j hj => by rw [ho r (by omega)]⟩ h1) h2)
    by_cases hu2 : u = v
    · subst hu2; exact hx c m hc
    · rw [ho (r + 6 + u) (by omega)]
      exact hn u (by omega) c m hc
theorem wg29 (h : RingL S R r) : ∀ (k d : Nat) (I : MI), (bd n).toNat + 1 - d = k → d ≤ (bd n).toNat + 1 → RingV I r n w → HasM I r (ml n w d) → (∀ e, e < d → I (r + 4) e = ((ml n w e).length : Int)) → (∀ I', offR I I' r → RingT I' r n w → Q S I' R) → LX6_weigh_29 G r (d : Int) S I R Q := by
  intro k
  induction k with
  | zero =>
    intro d I hk hd hr hh hb hq
    have hbd := bd_r n
    have hde : d = (bd n).toNat + 1 := by omega
    have e1 : w32 (bd n + 1) = ((d : Nat) : Int) := by rw [w32_id (by omega)]; omega
    refine bX6_weigh_29 ⟨h.1, p6bound h.1, ?_⟩
    rw [v6bound hr, e1, h.2.1.2.2.1, h.2.2.1.2.2.1, h.2.2.2.1.2.2.1]
    refine br_t (by omega) ⟨rfl, ⟨by omega, by omega⟩, fun I75 e75 => ?_⟩
    rw [show Int.toNat (d : Int) = d by omega, hh.1] at e75
    refine wg79 h n.toNat 0 I75 (by omega) (by have := hr.2.1; omega) (hr.o (u_n e75 (by omega)) (u_n e75 (by omega))) ⟨fun i m hm => ?_, fun e he => ?_⟩ (fun v hv => by omega) (fun I' h1 h2 => hq I' (offR.tr (offR.u e75 (by omega)) h1) h2)
    · rw [u_n e75 (by omega)]
      exact hh.2 i m (by rw [hde]; exact hm)
    · by_cases he2 : e = d
      · subst he2; rw [u_s e75]
      · rw [u_o e75 he2]; exact hb e (by omega)
  | succ k ih =>
    intro d I hk hd hr hh hb hq
    have hbd := bd_r n
    have hl := ml_bd hr.2.1 hr.2.2.2
    have hll : (ml n w (d + 1)).length ≤ 165 := by
      obtain ⟨M, e⟩ := ml_pre (n := n) (w := w) (D := d + 1) (E := (bd n).toNat + 1) (by omega)
      have := hl.2
      rw [e, List.length_append] at this
      omega
    refine bX6_weigh_29 ⟨h.1, p6bound h.1, ?_⟩
    rw [v6bound hr, h.2.1.2.2.1, h.2.2.1.2.2.1, h.2.2.2.1.2.2.1]
    refine br_f (by omega) ⟨rfl, ⟨by omega, by omega⟩, fun I48 e48 => ?_⟩
    rw [show Int.toNat (d : Int) = d by omega, hh.1] at e48
    have hh2 : HasM I48 r (ml n w d) := ⟨by rw [u_n e48 (by omega)]; exact hh.1, fun i m hm => by rw [u_n e48 (by omega)]; exact hh.2 i m hm⟩
    refine listDegree_spec h (by omega) (hr.o (u_n e48 (by omega)) (u_n e48 (by omega))) hh2 (by rw [ml] at hll; exact hll) (fun I' ho hx => ?_)
    rw [add1 (by omega)]
    have hr2 : RingV I48 r n w := hr.o (u_n e48 (by omega)) (u_n e48 (by omega))
    refine ih (d + 1) I' (by omega) (by omega) (ho.v hr2) (by rw [ml]; exact hx) (fun e he => ?_) (fun I2 h1 h2 => hq I2 (offR.tr (offR.u e48 (by omega)) (offR.tr (offM.toR ho) h1)) h2)
    rw [ho.1 (r + 4) (by omega) (by omega)]
    by_cases he2 : e = d
    · subst he2; rw [u_s e48]
    · rw [u_o e48 he2]; exact hb e (by omega)
theorem weigh_spec {I : MI} (h : RingL S R r) (h0 : I r 0 = n) (hn : 1 ≤ n ∧ n ≤ 3) (hw : wtOK w) (hq : ∀ I', offR I I' r → RingT I' r n w → Q S I' R) : CV G MX6_weigh [vR r, vI (w 0), vI (w 1), vI (w 2)] S I R Q := by
  refine bX6_weigh ?_
  rw [h.2.1.1, h.2.2.1.1, h.2.2.2.1.1]
  refine ⟨h.1, rfl, ⟨by omega, by omega⟩, fun I6 e6 => ⟨⟨by omega, by omega⟩, fun I13 e13 => ⟨⟨by omega, by omega⟩, fun I20 e20 => fun I23 e23 => ?_⟩⟩⟩
  have t0 : Int.toNat 0 = 0 := rfl
  have t1 : Int.toNat 1 = 1 := rfl
  have t2 : Int.toNat 2 = 2 := rfl
  rw [t0] at e6
  rw [t1] at e13
  rw [t2] at e20
  have ho : offR I I23 r := (offR.u e6 (by omega)).tr ((offR.u e13 (by omega)).tr ((offR.u e20 (by omega)).tr ⟨fun b hb _ => u_n e23 hb, fun j hj => u_o e23 hj⟩))
  refine wg29 h ((bd n).toNat + 1) 0 I23 (by omega) (by omega) ⟨by rw [ho.2 0 (by omega)]; exact h0, hn, fun i hi => ?_, hw⟩ ⟨by rw [u_s e23]; rfl, fun i m hm => ?_⟩ (fun e he => by omega) (fun I' h1 h2 => hq I' (ho.tr h1) h2)
  · rw [u_n e23 (by omega)]
    have : i = 0 ∨ i = 1 ∨ i = 2 := by omega
    rcases this with rfl | rfl | rfl
    · rw [u_o e20 (by omega), u_o e13 (by omega), u_s e6]
    · rw [u_o e20 (by omega), u_s e13]
    · rw [u_s e20]
  · rw [ml] at hm; cases hm
/-- the greatest of the weights told -/
def gwt (w : Nat → Int) : Nat → Int
  | 0 => 0
  | k + 1 => max (gwt w k) (w k)
end R63

