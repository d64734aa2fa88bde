/-! ===== X10: poly ===== -/
def emp (s : Ms) (fl : Int × Int) : Ms := (s.1, s.2.1, (s.b, 0), fl, s.2.2.2.2.1, s.2.2.2.2.2)
def polyA (s : Ms) (x1 x : Int) (s' : Ms) : Prop := (¬ slt x1 → x = -1 ∧ s' = emp s (0, -1)) ∧ (slt x1 → (∀ f, rdP s.b s.tn (s.p : Int) s.n s.w = Sum.inl f → x = -1 ∧ s' = emp s f) ∧ ∀ L, rdP s.b s.tn (s.p : Int) s.n s.w = Sum.inr L → x = (L.length : Int) ∧ s' = put (emp s (0, -1)) x1.toNat L)
theorem emp_ok {s : Ms} (hs : MsOK s) (fl : Int × Int) : MsOK (emp s fl) := ⟨hs.1, hs.2.1, hs.2.2.1, hs.2.2.2.1, ⟨Nat.zero_le _, fun i hi => absurd hi (Nat.not_lt_zero _)⟩, hs.2.2.2.2.2⟩
theorem heaps_keys {p : Int} : ∀ {raw L : List Tm} (t : Tm), t ∈ heapsL p L raw → (∃ a ∈ raw, a.1 = t.1) ∨ ∃ a ∈ L, a.1 = t.1
  | [], L, t, h => Or.inr ⟨t, h, rfl⟩
  | r :: raw, L, t, h => by
    rcases heaps_keys (raw := raw) (L := heapT p L r.1 r.2) t h with ⟨a, ha, e⟩ | ⟨a, ha, e⟩
    · exact Or.inl ⟨a, List.mem_cons_of_mem _ ha, e⟩
    · unfold heapT at ha
      by_cases c : r.2 = 0
      · rw [if_pos c] at ha; exact Or.inr ⟨a, ha, e⟩
      · rw [if_neg c] at ha
        rcases ins_mem ha with q | ⟨d, hd, q⟩
        · exact Or.inl ⟨r, List.mem_cons_self, by rw [← q]; exact e⟩
        · exact Or.inr ⟨d, hd, q.trans e⟩
section RG3
variable {G : Gl} {S : Sh} {R : MR} {m : Nat} {b : Nat → Int} {n : Nat} {p nv : Int} {w : Nat → Int}
theorem passes_spec {I : MI} {Q : Sh → MI → MR → Int → Prop} {s : Nat} {c : Int} (hr : RfS S R m) (h : BsR I m b n p nv w) (hs : s ≤ n) (h12 : I m 12 = (s : Int)) (h13 : I m 13 = 0) (hc : c ≠ -1)
    (hy : see b n s = c → ∀ I', off12 I I' m → I' m 12 = (sk b n (s + 1) : Int) → Q S I' R 1) (hn : see b n s ≠ c → Q S I R 0) : CI G MX10_passes [vR m, vI c] S I R Q := by
  have sv := v10see hr h hs
  have n200 := h.2.2.2
  refine bX10_passes ⟨hr.1, ?_⟩
  rw [h13, h12, sv.2, add1 (by omega)]
  refine br_f (fun z => z rfl) ⟨sv.1, fun e => fun J f => ?_, hn⟩
  have hlt : s < n := see_lt (b := b) (n := n) (a := s) (by rw [e]; exact hc)
  exact skips_spec hr (h.o (off12.u f).toG) (u_s f) hlt (fun J2 o2 g2 => hy e J2 ((off12.u f).tr o2) g2)
theorem passes_f {I : MI} {Q : Sh → MI → MR → Int → Prop} {c : Int} (hr : RfS S R m) (h13 : I m 13 ≠ 0) (hn : Q S I R 0) : CI G MX10_passes [vR m, vI c] S I R Q :=
  bX10_passes ⟨hr.1, br_t h13 hn⟩
theorem poly_loop {x1 x2 : Int} {Q : Sh → MI → MR → Int → Prop} {I : MI} (hr : RfS S R m) (h : BsR I m b n p nv w) :
    ∀ (k s : Nat) (mn : Int) (raw : List Tm) (J : MI), n - s < k → s ≤ n → sk b n s = s → offG I J m → J m 12 = (s : Int) → J m 13 = 0 → HpH J m (heapsL p [] raw) → HpI p nv w (heapsL p [] raw) → raw.length ≤ s → (mn = 0 ∨ mn = 1) →
      (∀ J2 f, rdL b n p nv w k s (decide (mn ≠ 0)) raw = Sum.inl f → offG I J2 m → FltR J2 m f → LX10_poly_155 G m x1 x2 S J2 R Q) →
      (∀ J2 raw2, rdL b n p nv w k s (decide (mn ≠ 0)) raw = Sum.inr raw2 → offG I J2 m → kpF J J2 m → J2 m 13 = 0 → raw2.length ≤ 300 → HpH J2 m (heapsL p [] raw2) → HpI p nv w (heapsL p [] raw2) → LX10_poly_155 G m x1 x2 S J2 R Q) →
      CV G MX10_readsTerm [vR m, vI mn] S J R (fun S122 I122 R122 => LX10_poly_66 G m x1 x2 1 S122 I122 R122 Q) := by
  have n200 := h.2.2.2
  have hp2 := h.2.1.2
  have hn := h.1.2.1
  intro k
  induction k with
  | zero => intro s mn raw J hk; omega
  | succ k ih =>
    intro s mn raw J hk hs hss oJ j12 j13 hH hI hlen hmn kF kS
    rw [rdL] at kF kS
    have bs := h.o oJ
    have hl := heapsL_len p raw []
    have e0 : ([] : List Tm).length = 0 := rfl
    refine readsTerm_spec hr bs hs hss j12 j13 hH hI (by omega) hmn (fun I' f ef o' fl => ?_) (fun I' st es o' kk k13 k12 gH gI => ?_)
    · rw [ef] at kF
      have f13 : I' m 13 ≠ 0 := by rw [fl.1]; decide
      refine bX10_poly_66 (br_f (by decide) ⟨hr.1, passes_f hr f13 (br_f (fun z => z rfl) ⟨hr.1, passes_f hr f13 (br_t rfl (bX10_poly_97 (br_f (fun z => z rfl) (br_t rfl (bX10_poly_66 (br_t rfl ⟨hr.1, br_t f13 (kF I' f rfl (oJ.tr o') fl)⟩))))))⟩)⟩)
    · rw [es] at kF kS
      have so := smd_ok hp2.1 hn h.1.2.2.2 hs hss es
      have oI := oJ.tr o'
      have bs' := h.o oI
      have hraw : heapT p (heapsL p [] raw) st.2.1 st.2.2 = heapsL p [] (raw ++ [st.2]) := by rw [heapsL_snoc]
      rw [hraw] at gH gI
      have hlen2 : (raw ++ [st.2]).length ≤ st.1 := by rw [List.length_append, List.length_singleton]; omega
      refine bX10_poly_66 (br_f (by decide) ⟨hr.1, passes_spec hr bs' so.2.1 k12 k13 (by decide) (fun e43 J3 o3 g3 => br_t (by decide) ?_) (fun n43 => br_f (fun z => z rfl) ⟨hr.1, passes_spec hr bs' so.2.1 k12 k13 (by decide) (fun e45 J3 o3 g3 => br_f (by decide) ?_) (fun n45 => br_t rfl ?_)⟩)⟩)
      · have e43' : see b n st.1 = 43 := e43
        simp only [e43', if_true] at kF kS
        have hlt : st.1 < n := see_lt (b := b) (n := n) (a := st.1) (by rw [e43']; decide)
        have k1 := sk_ge (b := b) (n := n) (a := st.1 + 1) hlt
        refine bX10_poly_97 (br_t (by decide) ⟨hr.1, ih (sk b n (st.1 + 1)) 0 (raw ++ [st.2]) J3 (by omega) (sk_le hlt) (sk_sk hlt) (oI.tr o3.toG) g3 (by rw [o3.2 13 (by omega)]; exact k13) (o3.hp.h gH) gI (by omega) (Or.inl rfl) (fun J4 f e4 => kF J4 f e4) (fun J4 r4 e4 o5 k5 => kS J4 r4 e4 o5 ((kk.tr o3.hp.2).tr k5))⟩)
      · have e45' : see b n st.1 = 45 := e45
        have n43' : ¬ (45 : Int) = 43 := by decide
        simp only [e45', n43', if_false, if_true] at kF kS
        have hlt : st.1 < n := see_lt (b := b) (n := n) (a := st.1) (by rw [e45']; decide)
        have k1 := sk_ge (b := b) (n := n) (a := st.1 + 1) hlt
        refine bX10_poly_97 (br_f (fun z => z rfl) (br_f (by decide) ⟨hr.1, ih (sk b n (st.1 + 1)) 1 (raw ++ [st.2]) J3 (by omega) (sk_le hlt) (sk_sk hlt) (oI.tr o3.toG) g3 (by rw [o3.2 13 (by omega)]; exact k13) (o3.hp.h gH) gI (by omega) (Or.inr rfl) (fun J4 f e4 => kF J4 f e4) (fun J4 r4 e4 o5 k5 => kS J4 r4 e4 o5 ((kk.tr o3.hp.2).tr k5))⟩))
      · refine bX10_poly_97 (br_f (fun z => z rfl) (br_t rfl (bX10_poly_66 (br_t rfl ⟨hr.1, ?_⟩))))
        have a43 : ¬ see b n st.1 = 43 := n43
        have a45 : ¬ see b n st.1 = 45 := n45
        simp only [a43, a45, if_false] at kF kS
        rw [k13, k12, bs'.2.2.1.1]
        refine br_f (fun z => z rfl) ⟨fun c => ?_, fun c => ?_⟩
        · have e1 : see b n st.1 = -1 := if_neg (by omega)
          simp only [e1, if_true] at kS
          exact kS I' _ rfl oI kk k13 (by omega) gH gI
        · have e1 : ¬ see b n st.1 = -1 := fun z => by
            have hlt : st.1 < n := by omega
            rw [see_at hlt] at z
            have := (bs'.2.2.1.2 st.1 hlt).2; omega
          simp only [e1, if_false] at kF
          exact faultyAt_spec hr k13 (fun J4 o4 f4 _ _ => kF J4 _ rfl (oI.tr o4) f4)
end RG3
section RG4
variable {G : Gl} {S : Sh} {R : MR} {m : Nat} {s : Ms} {I : MI} {Q : Sh → MI → MR → Int → Prop}
theorem ref_poly (h : RfS S R m) (hs : MsOK s) (hv : RefV I m s) {x1 : Int} (r1 : InR x1) (hq : ∀ I' x s', offX I I' m (m + 14) → RefV I' m s' → polyA s x1 x s' → Q S I' R x) : CI G MX10_poly [vR m, vI x1] S I R Q := by
  have ht := hs.2.2.2.2.1
  refine bX10_poly ⟨h.1, fun I2 e2 => fun I7 e7 => fun I12 e12 => fun I17 e17 => ⟨p10slot h r1, ?_⟩⟩
  have o2 : offS I I2 m := offS.u e2 (Or.inl rfl)
  have hv2 := hv.oS hs o2
  have v1 := v10slot (m := m) r1
  have c0 : ∀ b, b ≠ m → I17 b = I2 b := fun b hb => by rw [u_n e17 hb, u_n e12 hb, u_n e7 hb]
  have cm : ∀ j, j ≠ 13 → j ≠ 14 → j ≠ 15 → I17 m j = I2 m j := fun j a b c => by rw [u_o e17 c, u_o e12 b, u_o e7 a]
  have c13 : I17 m 13 = 0 := by rw [u_o e17 (by omega), u_o e12 (by omega), u_s e7]
  have c14 : I17 m 14 = 0 := by rw [u_o e17 (by omega), u_s e12]
  have c15 : I17 m 15 = -1 := u_s e17
  -- the tape is empty, else as it was
  have mk : ∀ (J : MI) (fl : Int × Int), (∀ b, b ≠ m → b ≠ m + 5 → b ≠ m + 6 → b ≠ m + 8 → J b = I2 b) → (∀ j, (j < 9 ∨ 16 < j) → J m j = I2 m j) → J m 11 = 0 → J m 14 = fl.1 → J m 15 = fl.2 → RefV J m (emp s fl) := by
    intro J fl a1 a2 a3 a4 a5
    refine hv2.re hs (a1 _ (by omega) (by omega) (by omega) (by omega)) (a1 _ (by omega) (by omega) (by omega) (by omega)) (a1 _ (by omega) (by omega) (by omega) (by omega)) (a1 _ (by omega) (by omega) (by omega) (by omega)) (a1 _ (by omega) (by omega) (by omega) (by omega)) (a2 1 (by omega)) (a2 2 (by omega)) (fun j h1 h2 => a2 j (by omega)) ⟨a3, fun i hi => absurd hi (Nat.not_lt_zero _)⟩ ⟨a4, a5⟩ ⟨by rw [a2 19 (by omega)]; exact hv2.2.2.2.2.2.1.1, fun i x hx => by rw [a1 _ (by omega) (by omega) (by omega) (by omega)]; exact hv2.2.2.2.2.2.1.2 i x hx⟩
  refine ⟨fun c => ?_, fun c => fun J f => ?_⟩
  · have h1 := v1.mp c
    have ea : x1 = ((x1.toNat : Nat) : Int) := by omega
    intro I42 e42 I47 e47
    have d0 : ∀ b, b ≠ m → I47 b = I2 b := fun b hb => by rw [u_n e47 hb, u_n e42 hb]; exact c0 b hb
    have dm : ∀ j, j ≠ 9 → (j < 12 ∨ 15 < j) → I47 m j = I2 m j := fun j a b => by rw [u_o e47 a, u_o e42 (by omega)]; exact cm j (by omega) (by omega) (by omega)
    have d12 : I47 m 12 = ((0 : Nat) : Int) := by rw [u_o e47 (by omega), u_s e42]; rfl
    have d13 : I47 m 13 = 0 := by rw [u_o e47 (by omega), u_o e42 (by omega)]; exact c13
    have d14 : I47 m 14 = 0 := by rw [u_o e47 (by omega), u_o e42 (by omega)]; exact c14
    have d15 : I47 m 15 = -1 := by rw [u_o e47 (by omega), u_o e42 (by omega)]; exact c15
    have bs : BsR I47 m s.b s.tn (s.p : Int) s.n s.w := by
      refine ⟨⟨by rw [dm 1 (by omega) (by omega)]; exact hv2.1.1, hv2.1.2.1, fun i hi => by rw [d0 _ (by omega)]; exact hv2.1.2.2.1 i hi, hv2.1.2.2.2⟩, ⟨by rw [dm 2 (by omega) (by omega)]; exact hv2.2.1.1, hv2.2.1.2⟩, ⟨by rw [dm 11 (by omega) (by omega)]; exact hv2.2.2.2.1.1, fun i hi => ⟨by rw [d0 _ (by omega)]; exact hv2.2.2.2.1.2 i hi, ht.2 i hi⟩⟩, ht.1⟩
    have h17 : I17 m 11 = (s.tn : Int) := by rw [cm 11 (by omega) (by omega) (by omega)]; exact hv2.2.2.2.1.1
    rw [h17]
    have gf : ∀ J, offG I47 J m → (∀ b, b ≠ m → b ≠ m + 5 → b ≠ m + 6 → b ≠ m + 8 → J b = I2 b) ∧ ∀ j, (j < 9 ∨ 16 < j) → J m j = I2 m j := fun J o => ⟨fun b a1 a2 a3 a4 => by rw [o.1 b a1 a2 a3 a4]; exact d0 b a1, fun j hj => by rw [o.2 j (by omega) (by omega) (by omega) (by omega) (by omega) (by omega)]; exact dm j (by omega) (by omega)⟩
    -- how it ends
    have endF : ∀ J f, rdAll s.b s.tn (s.p : Int) s.n s.w = Sum.inl f → offG I47 J m → FltR J m f → LX10_poly_155 G m x1 (s.tn : Int) S J R Q := by
      intro J f ef o fl
      have g := gf J o
      refine bX10_poly_155 ⟨h.1, fun J2 f2 => ?_⟩
      have f13 : J2 m 13 ≠ 0 := by rw [u_o f2 (by omega), fl.1]; decide
      refine br_t f13 (bX10_poly_183 ⟨h.1, br_f f13 (hq J2 _ _ (o2.X.tr (fun b hb => by rw [u_n f2 (by omega)]; exact g.1 b (by omega) (by omega) (by omega) (by omega))) (mk J2 f (fun b a1 a2 a3 a4 => by rw [u_n f2 a1]; exact g.1 b a1 a2 a3 a4) (fun j hj => by rw [u_o f2 (by omega)]; exact g.2 j hj) (u_s f2) (by rw [u_o f2 (by omega)]; exact fl.2.1) (by rw [u_o f2 (by omega)]; exact fl.2.2)) ⟨fun z => absurd h1 z, fun _ => ⟨fun f' e' => ?_, fun L e' => ?_⟩⟩)⟩)
      · unfold rdP at e'
        rw [ef] at e'
        rw [← Sum.inl.inj e']; exact ⟨rfl, rfl⟩
      · unfold rdP at e'
        rw [ef] at e'
        cases e'
    have endS : ∀ J raw, rdAll s.b s.tn (s.p : Int) s.n s.w = Sum.inr raw → offG I47 J m → J m 13 = 0 → J m 14 = 0 → J m 15 = -1 → raw.length ≤ 300 → HpH J m (heapsL (s.p : Int) [] raw) → HpI (s.p : Int) s.n s.w (heapsL (s.p : Int) [] raw) → LX10_poly_155 G m x1 (s.tn : Int) S J R Q := by
      intro J raw er o j13 j14 j15 hl hH hI
      have g := gf J o
      have hlen := heapsL_len (s.p : Int) raw []
      have e0 : ([] : List Tm).length = 0 := rfl
      refine bX10_poly_155 ⟨h.1, fun J2 f2 => ?_⟩
      have k13 : J2 m 13 = 0 := by rw [u_o f2 (by omega)]; exact j13
      have hH2 : HpH J2 m (heapsL (s.p : Int) [] raw) := by
        unfold HpH
        rw [u_o f2 (by omega), u_n f2 (by omega), u_n f2 (by omega)]; exact hH
      have hvJ : RefV J2 m (emp s (0, -1)) := mk J2 (0, -1) (fun b a1 a2 a3 a4 => by rw [u_n f2 a1]; exact g.1 b a1 a2 a3 a4) (fun j hj => by rw [u_o f2 (by omega)]; exact g.2 j hj) (u_s f2) (by rw [u_o f2 (by omega)]; exact j14) (by rw [u_o f2 (by omega)]; exact j15)
      have oX2 : offX I J2 m (m + 14) := o2.X.tr (fun b hb => by rw [u_n f2 (by omega)]; exact g.1 b (by omega) (by omega) (by omega) (by omega))
      have hm := emp_ok hs (0, -1)
      have nohi : ∀ t ∈ nz (heapsL (s.p : Int) [] raw), ¬ hi t.1 := by
        have rok := rdAll_ok (b := s.b) (n := s.tn) (p := (s.p : Int)) (nv := s.n) (w := s.w) (p2le hs) hs.2.1 hs.2.2.1 er
        intro t ht
        have hk := heaps_keys (p := (s.p : Int)) (raw := raw) (L := []) t (List.mem_filter.mp ht).1
        rcases hk with ⟨a, ha, e⟩ | ⟨a, ha, _⟩
        · rw [← e]; exact (rok a ha).1.2.1
        · exact absurd ha List.not_mem_nil
      refine br_f (fun z => z k13) (takes_spec (r := 290) h hH2 (by omega) (by omega) (fun J3 ft oR hR => br_t (by decide) ?_) (fun nf => br_f (fun z => z rfl) ⟨h.1, ?_⟩))
      · have hv3 := hvJ.oS hm (oR.toS (by omega))
        refine bX10_poly_183 ⟨h.1, ?_⟩
        have k13' : J3 m 13 = 0 := by rw [oR.1 m (by omega) (by omega) (by omega)]; exact k13
        rw [ea]
        refine br_t k13' (copies_spec (f := 290) h hR ft.1 (by omega) (by omega) (by omega) (fun J4 o4 h4 => ⟨h.1, ?_⟩))
        rw [h.2.1.1.2.1, h.2.2.1.1.2.1, h.2.2.2.1.2.1, show Int.toNat ((x1.toNat : Nat) : Int) = x1.toNat by omega, h4.1]
        refine ⟨rfl, ⟨by omega, by omega⟩, hq J4 _ _ ((oX2.tr oR.X).tr o4.X) (hv3.put hm o4 (by omega) h4) ⟨fun z => absurd h1 z, fun _ => ⟨fun f' e' => ?_, fun L e' => ?_⟩⟩⟩
        · unfold rdP at e'
          rw [er] at e'
          have e2' : (if 60 < (canon (s.p : Int) raw).length then Sum.inl (3, (s.tn : Int)) else Sum.inr (canon (s.p : Int) raw)) = (Sum.inl f' : Fl ⊕ List Tm) := e'
          rw [if_neg (show ¬ 60 < (canon (s.p : Int) raw).length from Nat.not_lt.mpr ft.1)] at e2'
          cases e2'
        · unfold rdP at e'
          rw [er] at e'
          have e2' : (if 60 < (canon (s.p : Int) raw).length then Sum.inl (3, (s.tn : Int)) else Sum.inr (canon (s.p : Int) raw)) = (Sum.inr L : Fl ⊕ List Tm) := e'
          rw [if_neg (show ¬ 60 < (canon (s.p : Int) raw).length from Nat.not_lt.mpr ft.1)] at e2'
          rw [← Sum.inr.inj e2']
          exact ⟨rfl, rfl⟩
      · have big : 60 < (canon (s.p : Int) raw).length := Nat.lt_of_not_le (fun z => nf ⟨z, nohi⟩)
        refine faultyAt_spec h k13 (fun J3 o3 f3 g2 g3 => bX10_poly_183 ⟨h.1, br_f (by rw [f3.1]; decide) (hq J3 _ _ (oX2.tr (fun b hb => g3 b (by omega))) (mk J3 (3, (s.tn : Int)) (fun b a1 a2 a3 a4 => by rw [g3 b a1, u_n f2 a1]; exact g.1 b a1 a2 a3 a4) (fun j hj => by rw [g2 j (by omega) (by omega) (by omega), u_o f2 (by omega)]; exact g.2 j hj) (by rw [g2 11 (by omega) (by omega) (by omega)]; exact u_s f2) f3.2.1 f3.2.2) ⟨fun z => absurd h1 z, fun _ => ⟨fun f' e' => ?_, fun L e' => ?_⟩⟩)⟩)
        · unfold rdP at e'
          rw [er] at e'
          have e2' : (if 60 < (canon (s.p : Int) raw).length then Sum.inl (3, (s.tn : Int)) else Sum.inr (canon (s.p : Int) raw)) = (Sum.inl f' : Fl ⊕ List Tm) := e'
          rw [if_pos big] at e2'
          rw [← Sum.inl.inj e2']; exact ⟨rfl, rfl⟩
        · unfold rdP at e'
          rw [er] at e'
          have e2' : (if 60 < (canon (s.p : Int) raw).length then Sum.inl (3, (s.tn : Int)) else Sum.inr (canon (s.p : Int) raw)) = (Sum.inr L : Fl ⊕ List Tm) := e'
          rw [if_pos big] at e2'
          cases e2'
    have n200 := bs.2.2.2
    refine skips_spec h bs d12 (Nat.zero_le _) (fun J1 o1 g1 => ⟨h.1, ?_⟩)
    have hle := sk_le (b := s.b) (n := s.tn) (a := 0) (Nat.zero_le _)
    have bs1 := bs.o o1.toG
    have k13 : J1 m 13 = 0 := by rw [o1.2 13 (by omega)]; exact d13
    have hp0 : HpH J1 m (heapsL (s.p : Int) [] []) := ⟨by rw [o1.2 9 (by omega)]; exact u_s e47, fun j t hj => by cases hj⟩
    have k1415 : J1 m 14 = 0 ∧ J1 m 15 = -1 := ⟨by rw [o1.2 14 (by omega)]; exact d14, by rw [o1.2 15 (by omega)]; exact d15⟩
    have n45 : see s.b s.tn (sk s.b s.tn 0) ≠ 45 → rdAll s.b s.tn (s.p : Int) s.n s.w = rdL s.b s.tn (s.p : Int) s.n s.w (s.tn + 1) (sk s.b s.tn 0) false [] := fun z => by unfold rdAll; rw [if_neg z]
    have y45 : see s.b s.tn (sk s.b s.tn 0) = 45 → rdAll s.b s.tn (s.p : Int) s.n s.w = rdL s.b s.tn (s.p : Int) s.n s.w (s.tn + 1) (sk s.b s.tn (sk s.b s.tn 0 + 1)) true [] := fun z => by unfold rdAll; rw [if_pos z]
    refine passes_spec h bs1 hle g1 k13 (by decide) (fun e J2 oo2 g2 => ⟨h.1, ?_⟩) (fun e => ⟨h.1, ?_⟩)
    · have hlt : sk s.b s.tn 0 < s.tn := see_lt (b := s.b) (n := s.tn) (by rw [e]; decide)
      have oo := o1.tr oo2
      refine poly_loop h bs (s.tn + 1) (sk s.b s.tn (sk s.b s.tn 0 + 1)) 1 [] J2 (by omega) (sk_le hlt) (sk_sk hlt) oo.toG g2 (by rw [oo2.2 13 (by omega)]; exact k13) (oo2.hp.h hp0) HpI.nil (Nat.zero_le _) (Or.inr rfl) (fun J3 f e3 o3 fl => endF J3 f ((y45 e).trans e3) o3 fl) (fun J3 raw e3 o3 kp3 t13 hl3 hH3 hI3 => endS J3 raw ((y45 e).trans e3) o3 t13 ?_ ?_ hl3 hH3 hI3)
      · rw [kp3.1, oo2.2 14 (by omega)]; exact k1415.1
      · rw [kp3.2, oo2.2 15 (by omega)]; exact k1415.2
    · refine poly_loop h bs (s.tn + 1) (sk s.b s.tn 0) 0 [] J1 (by omega) hle (sk_sk (Nat.zero_le _)) o1.toG g1 k13 hp0 HpI.nil (Nat.zero_le _) (Or.inl rfl) (fun J3 f e3 o3 fl => endF J3 f ((n45 e).trans e3) o3 fl) (fun J3 raw e3 o3 kp3 t13 hl3 hH3 hI3 => endS J3 raw ((n45 e).trans e3) o3 t13 ?_ ?_ hl3 hH3 hI3)
      · rw [kp3.1]; exact k1415.1
      · rw [kp3.2]; exact k1415.2
  · refine hq J _ _ (o2.X.tr (fun b hb => by rw [u_n f (by omega)]; exact c0 b (by omega))) (mk J (0, -1) (fun b a1 _ _ _ => by rw [u_n f a1]; exact c0 b a1) (fun j hj => by rw [u_o f (by omega)]; exact cm j (by omega) (by omega) (by omega)) (u_s f) (by rw [u_o f (by omega)]; exact c14) (by rw [u_o f (by omega)]; exact c15)) ⟨fun _ => ⟨rfl, rfl⟩, fun z => absurd (v1.mpr z) c⟩
end RG4
