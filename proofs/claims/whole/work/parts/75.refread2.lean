/-! ===== X10: factors, terms ===== -/
def PwR (I : MI) (m : Nat) (num : Int) (e : Nat → Int) : Prop := I m 16 = num ∧ ∀ i, i < 3 → I (m + 8) i = e i
/-- faults stay -/
def kpF (I I' : MI) (m : Nat) : Prop := I' m 14 = I m 14 ∧ I' m 15 = I m 15
def hpS (I I' : MI) (m : Nat) : Prop := (I' m 9 = I m 9 ∧ I' (m + 5) = I (m + 5) ∧ I' (m + 6) = I (m + 6)) ∧ kpF I I' m
theorem kpF.tr {I I1 I2 : MI} {m : Nat} (h : kpF I I1 m) (h2 : kpF I1 I2 m) : kpF I I2 m := ⟨h2.1.trans h.1, h2.2.trans h.2⟩
theorem hpS.rf {I : MI} {m : Nat} : hpS I I m := ⟨⟨rfl, rfl, rfl⟩, rfl, rfl⟩
theorem hpS.tr {I I1 I2 : MI} {m : Nat} (h : hpS I I1 m) (h2 : hpS I1 I2 m) : hpS I I2 m := ⟨⟨h2.1.1.trans h.1.1, h2.1.2.1.trans h.1.2.1, h2.1.2.2.trans h.1.2.2⟩, h.2.tr h2.2⟩
theorem hpS.h {I I' : MI} {m : Nat} {H : List Tm} (h : HpH I m H) (ho : hpS I I' m) : HpH I' m H := by
  unfold HpH
  rw [ho.1.1, ho.1.2.1, ho.1.2.2]; exact h
section RG2
variable {G : Gl} {S : Sh} {R : MR} {m : Nat} {b : Nat → Int} {n : Nat} {p nv : Int} {w : Nat → Int}
theorem off12.hp {I I' : MI} (h : off12 I I' m) : hpS I I' m := ⟨⟨h.2 9 (by omega), h.1 _ (by omega), h.1 _ (by omega)⟩, h.2 14 (by omega), h.2 15 (by omega)⟩
theorem off12.pw {I I' : MI} {num : Int} {e : Nat → Int} (hp : PwR I m num e) (h : off12 I I' m) : PwR I' m num e := ⟨by rw [h.2 16 (by omega)]; exact hp.1, fun i hi => by rw [h.1 _ (by omega)]; exact hp.2 i hi⟩
theorem v10var (hr : RfS S R m) {I : MI} (h : BsR I m b n p nv w) {a : Nat} (ha : a ≤ n) (h12 : I m 12 = (a : Int)) : pX10_variableHere S I R m ∧ ((120 ≤ see b n a ∧ see b n a < 120 + nv) → vX10_variableHere I R m = see b n a - 120) ∧ (¬ (120 ≤ see b n a ∧ see b n a < 120 + nv) → vX10_variableHere I R m = -1) := by
  have sv := v10see hr h ha
  have hn := h.1.2.1
  refine ⟨⟨hr.1, by rw [h12]; exact sv.1, trivial⟩, ?_⟩
  unfold vX10_variableHere
  rw [h12, sv.2, h.1.1]
  by_cases c0 : see b n a = 120
  · rw [if_neg (fun z => z c0), if_neg (show ¬ nv ≤ 0 by omega)]
    exact ⟨fun _ => by omega, fun z => absurd (by omega) z⟩
  · rw [if_pos c0]
    by_cases c1 : see b n a = 121
    · rw [if_neg (fun z => z c1)]
      by_cases d : nv ≤ 1
      · rw [if_pos d]; exact ⟨fun z => by omega, fun _ => rfl⟩
      · rw [if_neg d]; exact ⟨fun _ => by omega, fun z => absurd (by omega) z⟩
    · rw [if_pos c1]
      by_cases c2 : see b n a = 122
      · rw [if_neg (fun z => z c2)]
        by_cases d : nv ≤ 2
        · rw [if_pos d]; exact ⟨fun z => by omega, fun _ => rfl⟩
        · rw [if_neg d]; exact ⟨fun _ => by omega, fun z => absurd (by omega) z⟩
      · rw [if_pos c2]
        have e : (if nv ≤ -1 then (-1 : Int) else -1) = -1 := by
          by_cases d : nv ≤ -1
          · rw [if_pos d]
          · rw [if_neg d]
        rw [e]
        exact ⟨fun z => by omega, fun _ => rfl⟩
theorem isF_se2 {a : Nat} : isF b n nv a ↔ (isDg (see b n a) ∨ (120 ≤ see b n a ∧ see b n a < 120 + nv)) ∧ a < n := by
  unfold isF
  constructor
  · intro z; rw [see_at z.1]; exact ⟨z.2, z.1⟩
  · intro z; rw [see_at z.2] at z; exact ⟨z.2, z.1⟩
theorem v10fac (hr : RfS S R m) {I : MI} (h : BsR I m b n p nv w) {a : Nat} (ha : a ≤ n) (h12 : I m 12 = (a : Int)) : pX10_isFactor S I R m ∧ (I m 13 = 0 → (vX10_isFactor I R m ≠ 0 ↔ isF b n nv a)) ∧ (I m 13 ≠ 0 → vX10_isFactor I R m = 0) := by
  have sv := v10see hr h ha
  have sr := see_r h a
  have vv := v10var hr h ha h12
  have dd := v10dig (m := m) sr
  refine ⟨⟨hr.1, fun _ => trivial, fun _ => ⟨by rw [h12]; exact sv.1, by rw [h12, sv.2]; exact p10dig hr sr, fun _ => trivial, fun _ => ⟨vv.1, trivial⟩⟩⟩, fun h13 => ?_, fun h13 => ?_⟩
  · unfold vX10_isFactor
    rw [if_neg (fun z => z h13), h12, sv.2, isF_se2]
    by_cases c : isDg (see b n a)
    · rw [if_pos (dd.mpr c)]
      exact ⟨fun _ => ⟨Or.inl c, see_lt (b := b) (n := n) (a := a) (by omega)⟩, fun _ => by decide⟩
    · rw [if_neg (fun z => c (dd.mp z))]
      by_cases d : 120 ≤ see b n a ∧ see b n a < 120 + nv
      · rw [vv.2.1 d, if_neg (by omega)]
        exact ⟨fun _ => ⟨Or.inr d, see_lt (b := b) (n := n) (a := a) (by omega)⟩, fun _ => by decide⟩
      · rw [vv.2.2 d, if_pos rfl]
        exact ⟨fun z => absurd rfl z, fun z => absurd z.1 (fun q => q.elim c d)⟩
  · unfold vX10_isFactor
    rw [if_pos h13]
theorem rf101 {I : MI} {Q : Sh → MI → MR → Prop} {s v pos : Nat} {y num : Int} {e : Nat → Int} (hr : RfS S R m) (h13 : I m 13 = 0) (h12 : I m 12 = (pos : Int)) (hP : PwR I m num e) (hv : v < 3) (he : 0 ≤ e v ∧ e v ≤ 30) (hy : 0 ≤ y ∧ y < 1000)
    (hF : ∀ I' f, addE s v y pos num e = Sum.inl f → offG I I' m → FltR I' m f → Q S I' R) (hS : ∀ I' st, addE s v y pos num e = Sum.inr st → offG I I' m → hpS I I' m → I' m 13 = 0 → I' m 12 = (st.1 : Int) → PwR I' m st.2.1 st.2.2 → Q S I' R) : LX10_readsFactor_101 G m (s : Int) (v : Int) y S I R Q := by
  refine bX10_readsFactor_101 ⟨hr.1, ?_⟩
  rw [hr.2.1.2.1.2.2.2, hr.2.2.1.2.1.2.2.2, hr.2.2.2.2.1.2.2.2, show Int.toNat (v : Int) = v by omega, hP.2 v hv, w32_id (by omega)]
  refine ⟨rfl, ⟨by omega, by omega⟩, fun J f => ?_⟩
  have oG : offG I J m := ⟨fun b _ _ _ b8 => u_n f b8, fun j _ _ _ _ _ _ => by rw [u_n f (by omega)]⟩
  have g13 : J m 13 = 0 := by rw [u_n f (by omega)]; exact h13
  rw [u_s f]
  refine ⟨fun c => hS J (pos, num, upE e v (e v + y)) (by unfold addE; rw [if_neg (by omega)]) oG ⟨⟨by rw [u_n f (by omega)], by rw [u_n f (by omega)], by rw [u_n f (by omega)]⟩, by rw [u_n f (by omega)], by rw [u_n f (by omega)]⟩ g13 (by rw [u_n f (by omega)]; exact h12) ⟨by rw [u_n f (by omega)]; exact hP.1, fun i hi => ?_⟩, fun c => faultyAt_spec hr g13 (fun J2 o2 f2 _ _ => hF J2 (2, (s : Int)) (by unfold addE; rw [if_pos (by omega)]) (oG.tr o2) f2)⟩
  show J (m + 8) i = upE e v (e v + y) i
  by_cases hiv : i = v
  · rw [hiv, u_s f, upE_s]
  · rw [u_o f hiv, upE_n hiv]; exact hP.2 i hi
theorem rf101f {I : MI} {Q : Sh → MI → MR → Prop} {s v : Nat} {y : Int} {f : Fl} (hr : RfS S R m) (hv : v < 3) (hf : FltR I m f) (hF : ∀ I', offG I I' m → FltR I' m f → Q S I' R) : LX10_readsFactor_101 G m (s : Int) (v : Int) y S I R Q := by
  refine bX10_readsFactor_101 ⟨hr.1, ?_⟩
  rw [hr.2.1.2.1.2.2.2, hr.2.2.1.2.1.2.2.2, hr.2.2.2.2.1.2.2.2, show Int.toNat (v : Int) = v by omega]
  refine ⟨rfl, ⟨by omega, by omega⟩, fun J g => ?_⟩
  have oG : offG I J m := ⟨fun b _ _ _ b8 => u_n g b8, fun j _ _ _ _ _ _ => by rw [u_n g (by omega)]⟩
  have fJ : FltR J m f := by unfold FltR; rw [u_n g (by omega)]; exact hf
  exact ⟨fun _ => hF J oG fJ, fun _ => faulty_keep hr (by rw [fJ.1]; decide) (hF J oG fJ)⟩
theorem readsFactor_spec {I : MI} {Q : Sh → MI → MR → Prop} {s : Nat} {num : Int} {e : Nat → Int} (hr : RfS S R m) (h : BsR I m b n p nv w) (hf : isF b n nv s) (h12 : I m 12 = (s : Int)) (h13 : I m 13 = 0) (hP : PwR I m num e) (hnum : 0 ≤ num ∧ num < p) (he : okE nv e)
    (hF : ∀ I' f, fac b n p s num e = Sum.inl f → offG I I' m → FltR I' m f → Q S I' R) (hS : ∀ I' st, fac b n p s num e = Sum.inr st → offG I I' m → hpS I I' m → I' m 13 = 0 → I' m 12 = (st.1 : Int) → PwR I' m st.2.1 st.2.2 → Q S I' R) : CV G MX10_readsFactor [vR m] S I R Q := by
  have hs : s < n := hf.1
  have hn := h.1.2.1
  have hp2 := h.2.1.2
  have sv := v10see hr h (show s ≤ n by omega)
  have sr := see_r h s
  have dd := v10dig (m := m) sr
  have vv := v10var hr h (show s ≤ n by omega) h12
  have n200 := h.2.2.2
  unfold fac at hF hS
  refine bX10_readsFactor ⟨hr.1, ?_⟩
  rw [h12, sv.2]
  by_cases hd : isDg (b s)
  · rw [if_pos hd] at hF hS
    have d1 : vX10_isDigit m (see b n s) ≠ 0 := dd.mpr (by rw [see_at hs]; exact hd)
    have dv := dgs_v (b := b) (n := n) (most := 5) (a := s) (by omega)
    have dp := dgs_pos (b := b) (most := 5) hs hd
    have b5 : B10 5 = 100000 := rfl
    refine ⟨sv.1, p10dig hr sr, br_f d1 (reads_spec (most := 5) hr h h12 (by omega) h13 (by omega) (fun I' v hb o fl _ => ⟨hr.1, ?_⟩) (fun I' hb o g => ⟨hr.1, ?_⟩))⟩
    · have e2 : I' m 2 = p := by rw [o.2 2 (by omega) (by omega) (by omega) (by omega) (by omega) (by omega)]; exact h.2.1.1
      rw [e2]
      refine ⟨by omega, fun J f => hF J (1, (s : Int)) (by rw [if_pos (by omega)]) (o.tr (offG.u f (by omega))) ?_⟩
      unfold FltR
      rw [u_o f (by omega), u_o f (by omega), u_o f (by omega)]; exact fl
    · have e2 : I' m 2 = p := by rw [o.2 2 (by omega)]; exact h.2.1.1
      have hm := Int.emod_nonneg (dgs b n 5 s).2 (show p ≠ 0 by omega)
      have hm2 := Int.emod_lt_of_pos (dgs b n 5 s).2 (show 0 < p by omega)
      have hmul := mul_lt hnum ⟨hm, hm2⟩ hp2.2
      rw [e2, hP.1, irem_eq (by omega) (by omega) (by omega) (by omega), w64_id (by omega), lrem_eq (by omega) (by omega) (by omega) (by omega)]
      refine ⟨by omega, fun J f => hS J (sk b n (dgs b n 5 s).1, num * ((dgs b n 5 s).2 % p) % p, e) (by rw [if_neg (by omega)]) (o.toG.tr (offG.u f (by omega))) (o.hp.tr ⟨⟨u_o f (by omega), u_n f (by omega), u_n f (by omega)⟩, u_o f (by omega), u_o f (by omega)⟩) ?_ ?_ ⟨u_s f, fun i hi => ?_⟩⟩
      · rw [u_o f (by omega), o.2 13 (by omega)]; exact h13
      · rw [u_o f (by omega)]; exact g
      · rw [u_n f (by omega)]; exact (off12.pw hP o).2 i hi
  · rw [if_neg hd] at hF hS
    have hvr : 120 ≤ b s ∧ b s < 120 + nv := hf.2.resolve_left hd
    have d0 : vX10_isDigit m (see b n s) = 0 := Decidable.of_not_not (fun z => hd (by have := dd.mp z; rw [see_at hs] at this; exact this))
    have ev : vX10_variableHere I R m = (((b s - 120).toNat : Nat) : Int) := by
      rw [vv.2.1 (by rw [see_at hs]; exact hvr), see_at hs]; omega
    have hv3 : (b s - 120).toNat < 3 := by omega
    have hev := he (b s - 120).toNat hv3
    rw [ev, add1 (by omega)]
    refine ⟨sv.1, p10dig hr sr, br_t d0 ⟨vv.1, fun J1 f1 => ?_⟩⟩
    have o1 : off12 I J1 m := off12.u f1
    refine skips_spec hr (h.o o1.toG) (u_s f1) (show s + 1 ≤ n by omega) (fun J2 o2 g2 => ⟨hr.1, ?_⟩)
    have o12 := o1.tr o2
    have hle := sk_le (b := b) (n := n) (a := s + 1) hs
    have sv2 := v10see hr (h.o o12.toG) hle
    have sr2 := see_r (h.o o12.toG) (sk b n (s + 1))
    have h13' : J2 m 13 = 0 := by rw [o12.2 13 (by omega)]; exact h13
    rw [g2, sv2.2]
    refine ⟨sv2.1, fun c => ?_, fun c => ?_⟩
    · rw [if_neg c] at hF hS
      refine rf101 hr h13' g2 (off12.pw hP o12) hv3 ⟨hev.1, hev.2.1⟩ ⟨by omega, by omega⟩ (fun I' f e1 o3 fl => hF I' f e1 (o12.toG.tr o3) fl) (fun I' st e1 o3 hp3 k1 k2 k3 => hS I' st e1 (o12.toG.tr o3) (o12.hp.tr hp3) k1 k2 k3)
    · have c' := Decidable.not_not.mp c
      rw [if_pos c'] at hF hS
      have hlt : sk b n (s + 1) < n := see_lt (b := b) (by rw [c']; decide)
      rw [add1 (by omega)]
      intro J3 f3
      have o3 : off12 J2 J3 m := off12.u f3
      have o123 := o12.tr o3
      refine skips_spec hr (h.o o123.toG) (u_s f3) (show sk b n (s + 1) + 1 ≤ n by omega) (fun J4 o4 g4 => ⟨hr.1, ?_⟩)
      have o4' := o123.tr o4
      have hle2 := sk_le (b := b) (n := n) (a := sk b n (s + 1) + 1) hlt
      have dv := dgs_v (b := b) (n := n) (most := 2) (a := sk b n (sk b n (s + 1) + 1)) (by omega)
      have b2 : B10 2 = 100 := rfl
      refine reads_spec (most := 2) hr (h.o o4'.toG) g4 hle2 (by rw [o4'.2 13 (by omega)]; exact h13) (by omega) (fun I' v hb o fl _ => ?_) (fun I' hb o g => ?_)
      · rw [if_pos hb] at hF
        exact rf101f hr hv3 fl (fun I2 o5 fl2 => hF I2 _ rfl ((o4'.toG.tr o).tr o5) fl2)
      · rw [if_neg hb] at hF hS
        have o5 := o4'.tr o
        refine rf101 hr (by rw [o5.2 13 (by omega)]; exact h13) g (off12.pw hP o5) hv3 ⟨hev.1, hev.2.1⟩ ⟨by omega, by omega⟩ (fun I' f e1 o6 fl => hF I' f e1 (o5.toG.tr o6) fl) (fun I' st e1 o6 hp3 k1 k2 k3 => hS I' st e1 (o5.toG.tr o6) (o5.hp.tr hp3) k1 k2 k3)
theorem modulo_eq {I : MI} (h : RfP I m p) {x : Int} (hx : 0 ≤ x ∧ x < p) : vX10_modulo I m x = x ∧ vX10_modulo I m (-x) = ngP p x := by
  have hp2 := h.2
  unfold vX10_modulo
  rw [h.1]
  constructor
  · rw [lrem_eq (x := x) (by omega) (by omega) (by omega) (by omega), Int.emod_eq_of_lt hx.1 hx.2, w64_id (by omega), lrem_eq (by omega) (by omega) (by omega) (by omega), Int.add_emod_right, Int.emod_eq_of_lt hx.1 hx.2, w32_id (by omega)]
  · rw [lrem_t (x := -x) (by unfold InL; omega) (by omega) (by omega), Int.neg_tmod, Int.tmod_eq_of_lt hx.1 hx.2, w64_id (by omega), lrem_eq (by omega) (by omega) (by omega) (by omega)]
    unfold ngP
    by_cases c : x = 0
    · rw [if_pos c, c, show (-0 : Int) + p = p by omega, Int.emod_self]; decide
    · rw [if_neg c, Int.emod_eq_of_lt (by omega) (by omega), w32_id (by omega)]; omega
theorem readsTerm_spec {I : MI} {Q : Sh → MI → MR → Prop} {s : Nat} {mn : Int} {H : List Tm} (hr : RfS S R m) (h : BsR I m b n p nv w) (hs : s ≤ n) (hss : sk b n s = s) (h12 : I m 12 = (s : Int)) (h13 : I m 13 = 0) (hH : HpH I m H) (hI : HpI p nv w H) (hlen : H.length ≤ 3000) (hmn : mn = 0 ∨ mn = 1)
    (hF : ∀ I' f, smd b n p nv w (decide (mn ≠ 0)) s = Sum.inl f → offG I I' m → FltR I' m f → Q S I' R)
    (hS : ∀ I' st, smd b n p nv w (decide (mn ≠ 0)) s = Sum.inr st → offG I I' m → kpF I I' m → I' m 13 = 0 → I' m 12 = (st.1 : Int) → HpH I' m (heapT p H st.2.1 st.2.2) → HpI p nv w (heapT p H st.2.1 st.2.2) → Q S I' R) : CV G MX10_readsTerm [vR m, vI mn] S I R Q := by
  have hp2 := h.2.1.2
  have hn := h.1.2.1
  have n200 := h.2.2.2
  have vf := v10fac hr h hs h12
  -- the powers are cleared
  have clear : ∀ (J : MI) (P : MI → Prop), offG I J m → (∀ J2, offG I J2 m → (∀ j, J2 m j = J m j) → hpS J J2 m → (∀ i, i < 3 → J2 (m + 8) i = 0) → LX10_readsTerm_47 G m mn S J2 R Q) → LX10_readsTerm_29 G m mn 0 S J R Q := by
    intro J P oJ hk
    have loop : ∀ (q i : Nat) (J2 : MI), 3 - i = q → i ≤ 3 → (∀ b, b ≠ m + 8 → J2 b = J b) → (∀ j, j < i → J2 (m + 8) j = 0) → LX10_readsTerm_29 G m mn (i : Int) S J2 R Q := by
      intro q
      induction q with
      | zero =>
        intro i J2 hq1 hi ho hz
        exact bX10_readsTerm_29 (br_t (by omega) (hk J2 (oJ.tr ⟨fun b _ _ _ b8 => ho b b8, fun j _ _ _ _ _ _ => by rw [ho m (by omega)]⟩) (fun j => by rw [ho m (by omega)]) ⟨⟨by rw [ho m (by omega)], ho _ (by omega), ho _ (by omega)⟩, by rw [ho m (by omega)], by rw [ho m (by omega)]⟩ (fun j hj => hz j (by omega))))
      | succ q ih =>
        intro i J2 hq1 hi ho hz
        refine bX10_readsTerm_29 (br_f (by omega) ⟨hr.1, ?_⟩)
        rw [hr.2.1.2.1.2.2.2, hr.2.2.1.2.1.2.2.2, hr.2.2.2.2.1.2.2.2, show Int.toNat (i : Int) = i by omega, add1 (by omega)]
        refine ⟨rfl, ⟨by omega, by omega⟩, fun J3 f3 => ih (i + 1) J3 (by omega) (by omega) (fun b hb => by rw [u_n f3 hb]; exact ho b hb) (fun j hj => ?_)⟩
        by_cases hji : j = i
        · rw [hji, u_s f3]
        · rw [u_o f3 hji]; exact hz j (by omega)
    exact loop 3 0 J rfl (by omega) (fun _ _ => rfl) (fun j hj => absurd hj (Nat.not_lt_zero _))
  have e1 : lrem 1 p = 1 := by rw [lrem_eq (by omega) (by omega) (by omega) (by omega)]; exact Int.emod_eq_of_lt (by omega) (by omega)
  unfold smd at hF hS
  refine bX10_readsTerm ⟨hr.1, vf.1, ?_⟩
  by_cases hfs : isF b n nv s
  · rw [if_pos hfs] at hF hS
    refine br_t ((vf.2.1 h13).mpr hfs) ?_
    rw [h.2.1.1, e1]
    refine ⟨by omega, fun J0 f0 => ?_⟩
    have oJ0 : offG I J0 m := offG.u f0 (by omega)
    refine clear J0 (fun _ => True) oJ0 (fun J1 o1 m1 hp1 z1 => ?_)
    have hz : ∀ i, i < 3 → J1 (m + 8) i = (fun _ => (0 : Int)) i := z1
    have loop : ∀ (k t : Nat) (num : Int) (e : Nat → Int) (J : MI), n - t ≤ k → t ≤ n → offG I J m → hpS I J m → J m 13 = 0 → J m 12 = (t : Int) → PwR J m num e → 0 ≤ num ∧ num < p → okE nv e → facs b n p nv k t num e = facs b n p nv n s 1 (fun _ => 0) → LX10_readsTerm_47 G m mn S J R Q := by
      intro k
      induction k with
      | zero =>
        intro t num e J hk ht oJ hpJ j13 j12 hP hnum he hfe
        have htn : t = n := by omega
        rw [facs] at hfe
        rw [← hfe] at hS
        have bs := h.o oJ
        have vf2 := v10fac hr bs ht j12
        have nf : ¬ isF b n nv t := fun z => by have := z.1; omega
        have okk := okE_key bs.1.2.2.2 he
        have hw := bs.1.2.2.2
        have hx : exx (key w (e 0) (e 1) (e 2)) = e 0 := by
          have a0 := he 0 (by omega); have a1 := he 1 (by omega); have a2 := he 2 (by omega)
          exact exx_pk (by omega) (by omega) (by omega)
        have hy : exy (key w (e 0) (e 1) (e 2)) = e 1 := by
          have a0 := he 0 (by omega); have a1 := he 1 (by omega); have a2 := he 2 (by omega)
          exact exy_pk (by omega) (by omega) (by omega)
        have hzz : exz (key w (e 0) (e 1) (e 2)) = e 2 := by
          have a0 := he 0 (by omega); have a1 := he 1 (by omega); have a2 := he 2 (by omega)
          exact exz_pk (by omega) (by omega) (by omega)
        have fin : ∀ (y : Int), vX10_modulo J m y = (if decide (mn ≠ 0) = true then ngP p num else num) → LX10_readsTerm_86 G m y m m S J R Q := by
          intro y hy2
          refine bX10_readsTerm_86 ⟨hr.1, ⟨hr.1, by rw [bs.2.1.1]; omega, trivial⟩, hr.1, ?_⟩
          have q0 := hP.2 0 (by omega)
          have q1 := hP.2 1 (by omega)
          have q2 := hP.2 2 (by omega)
          rw [hr.2.1.2.1.2.2.2, hr.2.2.1.2.1.2.2.2, hr.2.2.2.2.1.2.2.2, show Int.toNat 0 = 0 from rfl, show Int.toNat 1 = 1 from rfl, show Int.toNat 2 = 2 from rfl, q0, q1, q2, hy2]
          have vr : 0 ≤ (if decide (mn ≠ 0) = true then ngP p num else num) ∧ (if decide (mn ≠ 0) = true then ngP p num else num) < p := by
            by_cases c : decide (mn ≠ 0) = true
            · rw [if_pos c]; exact ngP_r hnum
            · rw [if_neg c]; exact hnum
          refine ⟨rfl, by omega, by omega, by omega, hr.1, ?_⟩
          have hsp := heaps_spec (G := G) (Q := Q) hr bs.1 bs.2.1 (hpS.h hH hpJ) hI.1 hI.2.1 hI.2.2 (by omega) ⟨okk.2.2.1, okk.2.2.2⟩ vr (fun I' o' g' => hS I' _ rfl (oJ.tr o'.toG) ⟨by rw [o'.2 14 (by omega)]; exact hpJ.2.1, by rw [o'.2 15 (by omega)]; exact hpJ.2.2⟩ (by rw [o'.2 13 (by omega)]; exact j13) (by rw [o'.2 12 (by omega)]; exact j12) g' (hI.ins (by omega) ⟨okk.2.2.1, okk.2.2.2⟩ vr))
          rw [hx, hy, hzz] at hsp
          exact hsp
        refine bX10_readsTerm_47 ⟨hr.1, vf2.1, ?_⟩
        have mo := modulo_eq bs.2.1 hnum
        rw [j13, hP.1]
        refine br_t (Decidable.of_not_not (fun z => nf ((vf2.2.1 j13).mp z))) (br_f (fun z => z rfl) ⟨fun c => fin _ ?_, fun c => fin _ ?_⟩)
        · rw [mo.1, if_neg (by rw [decide_eq_true_eq]; exact fun z => z c)]
        · rw [w64_id (by omega), mo.2, if_pos (decide_eq_true c)]
      | succ k ih =>
        intro t num e J hk ht oJ hpJ j13 j12 hP hnum he hfe
        have bs := h.o oJ
        have vf2 := v10fac hr bs ht j12
        by_cases hf : isF b n nv t
        · rw [facs, if_pos hf] at hfe
          refine bX10_readsTerm_47 ⟨hr.1, vf2.1, br_f ((vf2.2.1 j13).mpr hf) (readsFactor_spec hr bs hf j12 j13 hP hnum he (fun I' f ef o' fl => ?_) (fun I' st ef o' hp' k1 k2 k3 => ?_))⟩
          · rw [ef] at hfe
            rw [← hfe] at hF
            have bs' := bs.o o'
            refine bX10_readsTerm_47 ⟨hr.1, ?_⟩
            have fz : vX10_isFactor I' R m = 0 := by unfold vX10_isFactor; rw [if_pos (by rw [fl.1]; decide)]
            have pz : pX10_isFactor S I' R m := ⟨hr.1, fun _ => trivial, fun z => absurd (by rw [fl.1]; decide) z⟩
            exact ⟨pz, br_t fz (br_t (by rw [fl.1]; decide) (hF I' f rfl (oJ.tr o') fl))⟩
          · rw [ef] at hfe
            have fk := fac_ok hp2.1 hn hf hnum he ef
            exact ih st.1 st.2.1 st.2.2 I' (by omega) fk.2.1 (oJ.tr o') (hpJ.tr hp') k1 k2 k3 fk.2.2.2.1 fk.2.2.2.2 hfe
        · rw [facs, if_neg hf] at hfe
          rw [← hfe] at hS
          have okk := okE_key bs.1.2.2.2 he
          have hx : exx (key w (e 0) (e 1) (e 2)) = e 0 := by
            have a0 := he 0 (by omega); have a1 := he 1 (by omega); have a2 := he 2 (by omega)
            exact exx_pk (by omega) (by omega) (by omega)
          have hy : exy (key w (e 0) (e 1) (e 2)) = e 1 := by
            have a0 := he 0 (by omega); have a1 := he 1 (by omega); have a2 := he 2 (by omega)
            exact exy_pk (by omega) (by omega) (by omega)
          have hzz : exz (key w (e 0) (e 1) (e 2)) = e 2 := by
            have a0 := he 0 (by omega); have a1 := he 1 (by omega); have a2 := he 2 (by omega)
            exact exz_pk (by omega) (by omega) (by omega)
          have fin : ∀ (y : Int), vX10_modulo J m y = (if decide (mn ≠ 0) = true then ngP p num else num) → LX10_readsTerm_86 G m y m m S J R Q := by
            intro y hy2
            refine bX10_readsTerm_86 ⟨hr.1, ⟨hr.1, by rw [bs.2.1.1]; omega, trivial⟩, hr.1, ?_⟩
            have q0 := hP.2 0 (by omega)
            have q1 := hP.2 1 (by omega)
            have q2 := hP.2 2 (by omega)
            rw [hr.2.1.2.1.2.2.2, hr.2.2.1.2.1.2.2.2, hr.2.2.2.2.1.2.2.2, show Int.toNat 0 = 0 from rfl, show Int.toNat 1 = 1 from rfl, show Int.toNat 2 = 2 from rfl, q0, q1, q2, hy2]
            have vr : 0 ≤ (if decide (mn ≠ 0) = true then ngP p num else num) ∧ (if decide (mn ≠ 0) = true then ngP p num else num) < p := by
              by_cases c : decide (mn ≠ 0) = true
              · rw [if_pos c]; exact ngP_r hnum
              · rw [if_neg c]; exact hnum
            refine ⟨rfl, by omega, by omega, by omega, hr.1, ?_⟩
            have hsp := heaps_spec (G := G) (Q := Q) hr bs.1 bs.2.1 (hpS.h hH hpJ) hI.1 hI.2.1 hI.2.2 (by omega) ⟨okk.2.2.1, okk.2.2.2⟩ vr (fun I' o' g' => hS I' _ rfl (oJ.tr o'.toG) ⟨by rw [o'.2 14 (by omega)]; exact hpJ.2.1, by rw [o'.2 15 (by omega)]; exact hpJ.2.2⟩ (by rw [o'.2 13 (by omega)]; exact j13) (by rw [o'.2 12 (by omega)]; exact j12) g' (hI.ins (by omega) ⟨okk.2.2.1, okk.2.2.2⟩ vr))
            rw [hx, hy, hzz] at hsp
            exact hsp
          refine bX10_readsTerm_47 ⟨hr.1, vf2.1, ?_⟩
          have mo := modulo_eq bs.2.1 hnum
          rw [j13, hP.1]
          refine br_t (Decidable.of_not_not (fun z => hf ((vf2.2.1 j13).mp z))) (br_f (fun z => z rfl) ⟨fun c => fin _ ?_, fun c => fin _ ?_⟩)
          · rw [mo.1, if_neg (by rw [decide_eq_true_eq]; exact fun z => z c)]
          · rw [w64_id (by omega), mo.2, if_pos (decide_eq_true c)]
    refine loop n s 1 (fun _ => 0) J1 (by omega) hs o1 (hpS.tr ⟨⟨u_o f0 (by omega), u_n f0 (by omega), u_n f0 (by omega)⟩, u_o f0 (by omega), u_o f0 (by omega)⟩ hp1) (by rw [m1, u_o f0 (by omega)]; exact h13) (by rw [m1, u_o f0 (by omega)]; exact h12) ⟨by rw [m1, u_s f0], hz⟩ ⟨by omega, by omega⟩ (fun i _ => ⟨Int.le_refl _, (by decide : (0 : Int) ≤ 30), fun _ => rfl⟩) rfl
  · rw [if_neg hfs] at hF
    refine br_f (fun z => hfs ((vf.2.1 h13).mp z)) ?_
    rw [h12]
    refine faultyAt_spec hr h13 (fun J o fl g2 g3 => ⟨hr.1, ?_⟩)
    have e2 : J m 2 = p := by rw [g2 2 (by omega) (by omega) (by omega)]; exact h.2.1.1
    rw [e2, e1]
    refine ⟨by omega, fun J0 f0 => clear J0 (fun _ => True) (o.tr (offG.u f0 (by omega))) (fun J1 o1 m1 _ _ => ?_)⟩
    have fl1 : FltR J1 m (1, (s : Int)) := by
      unfold FltR
      rw [m1, m1, m1, u_o f0 (by omega), u_o f0 (by omega), u_o f0 (by omega)]; exact fl
    refine bX10_readsTerm_47 ⟨hr.1, ?_⟩
    have fz : vX10_isFactor J1 R m = 0 := by unfold vX10_isFactor; rw [if_pos (by rw [fl1.1]; decide)]
    have pz : pX10_isFactor S J1 R m := ⟨hr.1, fun _ => trivial, fun z => absurd (by rw [fl1.1]; decide) z⟩
    exact ⟨pz, br_t fz (br_t (by rw [fl1.1]; decide) (hF J1 _ rfl o1 fl1))⟩
end RG2
