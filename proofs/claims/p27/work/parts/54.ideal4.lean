/-! ===== X2: count, find, settledAt, size, leaveOver ===== -/
def cnt (kd : Nat → Int) (k : Int) (a : Nat) : Nat → Int
  | 0 => 0
  | m + 1 => cnt kd k a m + if kd (a + m) = k then 1 else 0
theorem cnt_r (kd : Nat → Int) (k : Int) (a : Nat) : ∀ m, 0 ≤ cnt kd k a m ∧ cnt kd k a m ≤ (m : Int)
  | 0 => ⟨Int.le_refl _, Int.le_refl _⟩
  | m + 1 => by
    have h := cnt_r kd k a m
    rw [cnt]
    by_cases c : kd (a + m) = k
    · rw [if_pos c]; omega
    · rw [if_neg c]; omega
def fnd (kd : Nat → Int) (k : Int) : Nat → Nat → Int → Int
  | 0, _, _ => -1
  | m + 1, c, x => if kd c = k then (if x = 0 then (c : Int) else fnd kd k m (c + 1) (w32 (x + -1))) else fnd kd k m (c + 1) x
def Lst (g : Nat → Prop) (b : Nat) (x : Int) : Prop := (x = -1 ∧ ∀ m, 1 ≤ m → m ≤ b → ¬ g m) ∨ ∃ m : Nat, x = (m : Int) ∧ 1 ≤ m ∧ m ≤ b ∧ g m ∧ ∀ j, 1 ≤ j → j < m → ¬ g j
theorem Lst.det {g g2 : Nat → Prop} {b : Nat} {x y : Int} (h : Lst g b x) (h2 : Lst g2 b y) (e : ∀ m, 1 ≤ m → m ≤ b → (g m ↔ g2 m)) : x = y := by
  rcases h with ⟨a, b1⟩ | ⟨m, a, b1, b2, b3, b4⟩
  · rcases h2 with ⟨d, d1⟩ | ⟨j, d, d1, d2, d3, d4⟩
    · omega
    · exact absurd ((e j d1 d2).mpr d3) (b1 j d1 d2)
  · rcases h2 with ⟨d, d1⟩ | ⟨j, d, d1, d2, d3, d4⟩
    · exact absurd ((e m b1 b2).mp b3) (d1 m b1 b2)
    · rcases Nat.lt_trichotomy m j with q | q | q
      · exact absurd ((e m b1 b2).mp b3) (d4 m b1 q)
      · omega
      · exact absurd ((e j d1 d2).mpr d3) (b4 j d1 q)
/-- no STAIR in the last degrees below -/
def stl (n : Int) (w : Nat → Int) (kd : Nat → Int) (m : Nat) : Prop := cnt kd 0 (ml n w (m - (gwt w n.toNat).toNat)).length ((ml n w m).length - (ml n w (m - (gwt w n.toNat).toNat)).length) = 0
def restL (M : List Int) (z : Vc) : Nat → List Tm
  | 0 => []
  | c + 1 => restL M z c ++ if z c = 0 then [] else [(M.getD c 0, z c)]
theorem restL_congr {M : List Int} {z y : Vc} : ∀ {c : Nat}, (∀ j, j < c → z j = y j) → restL M z c = restL M y c
  | 0, _ => rfl
  | c + 1, h => by rw [restL, restL, restL_congr (c := c) (fun j hj => h j (by omega)), h c (by omega)]
theorem restL_len {M : List Int} {z : Vc} (c : Nat) : ∀ k, (restL M z c).length ≤ (restL M z (c + k)).length
  | 0 => Nat.le_refl _
  | k + 1 => by
    have := restL_len (M := M) (z := z) c k
    rw [show c + (k + 1) = c + k + 1 by omega, restL, List.length_append]; omega
/-- rests agree as far as they are made -/
theorem rst_pre {p : Int} {W : Nat} {K : Nat → Prop} {Rw : Nat → Vc} {U : Vc → Prop} {x y z : Vc} (h : EchU p W K Rw U) (h1 : U (fun c => x c - y c)) (h2 : U (fun c => x c - z c)) {t : Nat} (ht : t ≤ W) (hy : ∀ c, c < t → K c → p ∣ y c) (hz : ∀ c, c < t → K c → p ∣ z c) : ∀ c, c < t → p ∣ y c - z c := by
  have h3 := h.sub.sub h2 h1
  have e : (fun c => (x c - z c) - (x c - y c)) = (fun c => y c - z c) := funext fun c => by omega
  rw [e] at h3
  intro c
  induction c using Nat.strongRecOn with
  | _ c ih =>
    intro hc
    refine Classical.byContradiction fun q => q ?_
    have hk := ech_lead h.1 ((h.2 _).mp h3) (show c < W by omega) (fun j hj => ih j hj (by omega)) q
    exact Int.dvd_sub (hy c hc hk) (hz c hc hk)
theorem Has.off1 {I I' : MI} {a c : Nat} {L : List Tm} (h : Has I a L) (ho : off1 I I' c) (hc : c < a ∨ a + 2 < c) : Has I' a L := by
  refine ⟨by rw [ho a (by omega)]; exact h.1, fun j t ht => ?_⟩
  rw [ho (a + 1) (by omega), ho (a + 2) (by omega)]
  exact h.2 j t ht
section R2g
variable {G : Gl} {S : Sh} {R : MR} {i r pa nu nl : Nat} {pr : Nat} {n bits : Int} {w : Nat → Int} {P : Nat → Nat} {f : List Tm}
theorem p2isOf (h : IdS S R i) {k : Int} {c : Nat} (hc : c < 120) : pX2_isOf S R i k (c : Int) := by
  unfold pX2_isOf
  rw [h.2.1.2.1, h.2.2.2.2.1.1, h.2.2.2.2.1.2]
  exact ⟨h.1, rfl, ⟨by omega, by omega⟩, trivial⟩
theorem v2isOf (h : IdS S R i) {I : MI} {k : Int} {c : Nat} : vX2_isOf I R i k (c : Int) = if I (i + 122) c ≠ k then 0 else 1 := by
  unfold vX2_isOf
  rw [h.2.1.2.1, show Int.toNat (c : Int) = c by omega]
theorem count_spec {I : MI} {Q : Sh → MI → MR → Int → Prop} {k : Int} {a b : Nat} (h : IdS S R i) (hb : b ≤ 120) (hq : Q S I R (cnt (I (i + 122)) k a (b - a))) : CI G MX2_count [vR i, vI k, vI (a : Int), vI (b : Int)] S I R Q := by
  have loop : ∀ (m c : Nat), b - c = m → a ≤ c → (c ≤ b ∨ c = a) → LX2_count_10 G i k (b : Int) (cnt (I (i + 122)) k a (c - a)) (c : Int) S I R Q := by
    intro m
    induction m with
    | zero =>
      intro c hm hac hcb
      refine bX2_count_10 (br_t (by omega) ?_)
      rw [show c - a = b - a by omega]; exact hq
    | succ m ih =>
      intro c hm hac hcb
      refine bX2_count_10 (br_f (by omega) (br_f (by omega) ⟨h.1, p2isOf h (by omega), ?_⟩))
      rw [v2isOf h, add1 (by omega)]
      have hr := cnt_r (I (i + 122)) k a (c - a)
      have e : cnt (I (i + 122)) k a (c + 1 - a) = cnt (I (i + 122)) k a (c - a) + if I (i + 122) c = k then 1 else 0 := by
        rw [show c + 1 - a = (c - a) + 1 by omega, cnt, show a + (c - a) = c by omega]
      have hn := ih (c + 1) (by omega) (by omega) (by omega)
      by_cases q : I (i + 122) c = k
      · rw [if_neg (fun z => z q)]
        refine br_f (by decide) ?_
        rw [w32_id (by omega)]
        rw [e, if_pos q] at hn; exact hn
      · rw [if_pos q]
        refine br_t rfl ?_
        rw [e, if_neg q, Int.add_zero] at hn; exact hn
  refine bX2_count ?_
  have := loop (b - a) a rfl (by omega) (Or.inr rfl)
  rw [Nat.sub_self, show cnt (I (i + 122)) k a 0 = 0 from rfl] at this
  rw [show max (a : Int) 0 = (a : Int) by omega]; exact this
theorem gwt_r {w : Nat → Int} (hw : wtOK w) : ∀ k : Nat, k ≤ 3 → 0 ≤ gwt w k ∧ gwt w k ≤ 4
  | 0, _ => ⟨Int.le_refl _, show (0 : Int) ≤ 4 by decide⟩
  | k + 1, h => by
    have h1 := gwt_r hw k (by omega)
    have h2 := hw k (by omega)
    rw [gwt]; omega
theorem leaveOver_spec {I : MI} {Q : Sh → MI → MR → Int → Prop} {F : List Tm → Prop} {N a b : Nat} (h : IdS S R i) (hr : RingL S R r) (hra : apR r i (i + 123)) (hrt : RingT I r n w) (hnu : R r 1 = nu) (hN : NumS S I nu (pr : Int)) (an : nu < i ∨ i + 123 < nu) (hF : ∀ g, F g → okQ (pr : Int) n w g) (hid : IdT I i (pr : Int) n w F)
    (ha : PolyS S R a 60) (hf : Has I a f) (ok : okQ (pr : Int) n w f) (hai : a + 2 < i ∨ i + 123 < a) (hb : PolyS S R b 60) (hbi : b + 2 < i ∨ i + 123 < b) (hbr : b + 2 < r ∨ r + 8 < b) (hbn : nu < b ∨ b + 2 < nu) (h1N : 1 ≤ N) (hNb : (N : Int) ≤ bd n)
    (hT : ∀ I' z, (∀ c, c ≠ i + 123 → c ≠ b → c ≠ b + 1 → c ≠ b + 2 → I' c = I c) → RstU (pr : Int) (ml n w N).length (led (pr : Int) n w F N) (GenU (pr : Int) n w F N) (vecM (ml n w N) (cf f)) z → (∀ c, c < (ml n w N).length → 0 ≤ z c ∧ z c < (pr : Int)) → (restL (ml n w N) z (ml n w N).length).length ≤ 60 → Has I' b (restL (ml n w N) z (ml n w N).length) → Q S I' R 1)
    (hX : ∀ I' z t, (∀ c, c ≠ i + 123 → c ≠ b → c ≠ b + 1 → c ≠ b + 2 → I' c = I c) → t ≤ (ml n w N).length → GenU (pr : Int) n w F N (fun c => vecM (ml n w N) (cf f) c - z c) → (∀ c, c < t → led (pr : Int) n w F N c → z c = 0) → (∀ c, c < (ml n w N).length → 0 ≤ z c ∧ z c < (pr : Int)) → 60 < (restL (ml n w N) z t).length → Q S I' R 0) : CI G MX2_leaveOver [vR i, vR a, vI (N : Int), vR b, vR r] S I R Q := by
  have hbn2 := bd_n n
  have hw := hrt.1.2.2.2
  have hn := hrt.1.2.1
  have hp := hN.2.2
  have hl : (mB n w).length ≤ 120 := (ml_bd hn hw).1
  have hNl : (ml n w N).length ≤ (mB n w).length := ml_le (by omega)
  have hl1 : (ml n w N).length ≤ 120 := by omega
  have hGS : Sub (pr : Int) (ml n w N).length (GenU (pr : Int) n w F N) := spn_sub
  have hld : ∀ c, c < (ml n w N).length → (I (i + 122) c ≠ 0 ↔ led (pr : Int) n w F N c) := fun c hc =>
    (hid.2.2 c (Nat.lt_of_lt_of_le hc hNl)).2.1.trans (tr_lead hw (by omega) (by omega) hF hc).symm
  have loop : ∀ (k c : Nat) (I1 : MI), (ml n w N).length - c = k → c ≤ (ml n w N).length → (∀ j, j ≠ i + 123 → j ≠ b → j ≠ b + 1 → j ≠ b + 2 → I1 j = I j) → (∀ j, j < (ml n w N).length → 0 ≤ I1 (i + 123) j ∧ I1 (i + 123) j < (pr : Int)) → (∀ j, j < c → led (pr : Int) n w F N j → I1 (i + 123) j = 0) → GenU (pr : Int) n w F N (fun j => vecM (ml n w N) (cf f) j - I1 (i + 123) j) → (restL (ml n w N) (I1 (i + 123)) c).length ≤ 60 → Has I1 b (restL (ml n w N) (I1 (i + 123)) c) → LX2_leaveOver_28 G i b r ((ml n w N).length : Int) (c : Int) S I1 R Q := by
    intro k
    induction k with
    | zero =>
      intro c I1 hk hc ho hrg h0 hU hlen hH
      have e : c = (ml n w N).length := by omega
      rw [e] at h0 hlen hH
      refine bX2_leaveOver_28 (br_t (by omega) (hT I1 (I1 (i + 123)) ho ⟨hU, fun j hj hk => ?_⟩ hrg hlen hH))
      rw [h0 j hj hk]; exact Int.dvd_zero _
    | succ k ih =>
      intro c I1 hk hc ho hrg h0 hU hlen hH
      have hcW : c < (ml n w N).length := by omega
      have hrl : restL (ml n w N) (I1 (i + 123)) (c + 1) = restL (ml n w N) (I1 (i + 123)) c ++ if I1 (i + 123) c = 0 then [] else [((ml n w N).getD c 0, I1 (i + 123) c)] := rfl
      have go71 : (led (pr : Int) n w F N c → I1 (i + 123) c = 0) → LX2_leaveOver_71 G i b r ((ml n w N).length : Int) (c : Int) S I1 R Q := by
        intro hled
        have h01 : ∀ j, j < c + 1 → led (pr : Int) n w F N j → I1 (i + 123) j = 0 := fun j hj hk2 => by
          by_cases q : j = c
          · rw [q] at hk2 ⊢; exact hled hk2
          · exact h0 j (by omega) hk2
        refine bX2_leaveOver_71 ⟨h.1, ?_⟩
        rw [h.2.1.2.2, h.2.2.2.2.2.1, h.2.2.2.2.2.2, show Int.toNat (c : Int) = c by omega, add1 (by omega)]
        refine ⟨rfl, ⟨by omega, by omega⟩, fun z0 => ?_, fun z0 => ⟨hr.1, ?_⟩⟩
        · have e : restL (ml n w N) (I1 (i + 123)) (c + 1) = restL (ml n w N) (I1 (i + 123)) c := by rw [hrl, if_pos z0, List.append_nil]
          exact ih (c + 1) I1 (by omega) (by omega) ho hrg h01 hU (by rw [e]; exact hlen) (by rw [e]; exact hH)
        · rw [if_neg z0] at hrl
          have hmem : (ml n w N).getD c 0 ∈ mB n w := by
            rw [← ml_get (D := (bd n).toNat) (by omega) hcW]; exact getDl_mem (by omega)
          have hmr := mB_r hmem
          have hmo : (mB n w)[c]? = some ((ml n w N).getD c 0) := by
            rw [← ml_get (D := (bd n).toNat) (by omega) hcW, getDl (Nat.lt_of_lt_of_le hcW hNl), List.getElem?_eq_getElem (Nat.lt_of_lt_of_le hcW hNl)]
          rw [hr.2.1.2.1, hr.2.2.1.2.1, hr.2.2.2.1.2.1]
          have hI3 : I1 (r + 3) c = (ml n w N).getD c 0 := by
            have := hrt.2.1.p hmo
            unfold apR at hra
            rw [ho (r + 3) (by omega) (by omega) (by omega) (by omega)]; exact this
          rw [hI3]
          refine ⟨rfl, ⟨by omega, by omega⟩, hb.1, append_spec hb hH ⟨by omega, by omega, by omega, by omega, by omega⟩ (by omega) (fun I2 o2 hc60 _ hH2 => ?_) (fun hfail => ?_)⟩
          · refine br_t (by decide) (ih (c + 1) I2 (by omega) (by omega) (fun j j1 j2 j3 j4 => by rw [o2 j j2 j3 j4]; exact ho j j1 j2 j3 j4) ?_ ?_ ?_ ?_ ?_)
            · rw [o2 (i + 123) (by omega) (by omega) (by omega)]; exact hrg
            · rw [o2 (i + 123) (by omega) (by omega) (by omega)]; exact h01
            · rw [o2 (i + 123) (by omega) (by omega) (by omega)]; exact hU
            · rw [o2 (i + 123) (by omega) (by omega) (by omega), hrl, List.length_append, List.length_singleton]; omega
            · rw [o2 (i + 123) (by omega) (by omega) (by omega), hrl]; exact hH2
          · refine br_f (by decide) (hX I1 (I1 (i + 123)) (c + 1) ho (by omega) hU h01 hrg ?_)
            rw [hrl, List.length_append, List.length_singleton]
            rcases hfail with q | q
            · omega
            · unfold hi at q; omega
      refine bX2_leaveOver_28 (br_f (by omega) ⟨h.1, ?_⟩)
      rw [h.2.1.2.2, h.2.2.2.2.2.1, h.2.2.2.2.2.2, h.2.1.2.1, h.2.2.2.2.1.1, h.2.2.2.2.1.2, show Int.toNat (c : Int) = c by omega, add1 (by omega), hnu, ho (i + 122) (by omega) (by omega) (by omega) (by omega)]
      refine ⟨rfl, ⟨by omega, by omega⟩, fun z0 => go71 (fun _ => z0), fun z0 => ⟨rfl, ⟨by omega, by omega⟩, fun k0 => go71 (fun hk2 => absurd k0 ((hld c hcW).mpr hk2)), fun k0 => ⟨hr.1, ?_⟩⟩⟩
      have hN1 : NumS S I1 nu (pr : Int) := ⟨hN.1, by rw [ho nu (by omega) (by omega) (by omega) (by omega)]; exact hN.2.1, hN.2.2⟩
      have erow : I1 (i + 2 + c) = I (i + 2 + c) := ho _ (by omega) (by omega) (by omega) (by omega)
      have hrow := hid.2.1 c (by omega) k0
      have hes := hid.1.1 c (by omega) k0
      refine subtractRow_spec h hN1 (by omega) (by omega) hcW hrg (fun j hj => by rw [erow]; exact hrow j (by omega)) (fun I2 o2 h1 h2 => ?_)
      have e : restL (ml n w N) (I2 (i + 123)) (c + 1) = restL (ml n w N) (I1 (i + 123)) c := by
        have e1 : I2 (i + 123) c = 0 := by
          rw [h2 c (by omega) hcW, erow]; exact step_zero hes.1 ngP_dvd
        rw [restL, if_pos e1, List.append_nil]
        exact restL_congr (fun j hj => h1 j (Or.inl hj))
      have hUD : GenU (pr : Int) n w F (bd n).toNat (I (i + 2 + c)) := (hid.1.2 _).mpr (spn_in ⟨c, by omega, k0, rfl⟩)
      have hUN := tr_down hw (N := N) (by omega) (by omega) hF hUD
      refine ih (c + 1) I2 (by omega) (by omega) (fun j j1 j2 j3 j4 => (o2 j j1).trans (ho j j1 j2 j3 j4)) (fun j hj => ?_) (fun j hj hk2 => ?_) ?_ (by rw [e]; exact hlen) ?_
      · by_cases q : j < c
        · rw [h1 j (Or.inl q)]; exact hrg j hj
        · rw [h2 j (by omega) hj]
          exact ⟨Int.emod_nonneg _ (by omega), Int.emod_lt_of_pos _ (by omega)⟩
      · by_cases q : j < c
        · rw [h1 j (Or.inl q)]; exact h0 j q hk2
        · have e : j = c := by omega
          subst e
          rw [h2 j (by omega) hcW, erow]; exact step_zero hes.1 ngP_dvd
      · rw [erow] at h2
        have hz0 : ∀ j, j < c → (pr : Int) ∣ I (i + 2 + c) j := hes.2
        refine hGS.2.2.2 _ _ (fun j hj => ?_) (hGS.sub hU (hGS.2.2.1 (ngP (pr : Int) (I1 (i + 123) c)) _ hUN))
        refine emq.mpr ?_
        show (pr : Int) ∣ vecM (ml n w N) (cf f) j - I1 (i + 123) j - ngP (pr : Int) (I1 (i + 123) c) * I (i + 2 + c) j - (vecM (ml n w N) (cf f) j - I2 (i + 123) j)
        by_cases q : j < c
        · rw [h1 j (Or.inl q)]
          have h5 := Int.dvd_neg.mpr (dvm (ngP (pr : Int) (I1 (i + 123) c)) (hz0 j q))
          rw [show -(ngP (pr : Int) (I1 (i + 123) c) * I (i + 2 + c) j) = vecM (ml n w N) (cf f) j - I1 (i + 123) j - ngP (pr : Int) (I1 (i + 123) c) * I (i + 2 + c) j - (vecM (ml n w N) (cf f) j - I1 (i + 123) j) by omega] at h5
          exact h5
        · rw [h2 j (by omega) hj]
          have := Int.dvd_self_sub_emod (x := I1 (i + 123) j + ngP (pr : Int) (I1 (i + 123) c) * I (i + 2 + c) j) (m := (pr : Int))
          have h5 := Int.dvd_neg.mpr this
          rw [show ∀ x y z u : Int, -(x + y - u) = z - x - y - (z - u) from fun x y z u => by omega] at h5
          exact h5
      · rw [e]; exact hH.off1 o2 (by omega)
  refine bX2_leaveOver ⟨hr.1, ?_⟩
  rw [hr.2.1.2.2.1, hr.2.2.1.2.2.1, hr.2.2.2.1.2.2.1, show Int.toNat (N : Int) = N by omega, hrt.2.1.2 N (by omega)]
  refine ⟨rfl, ⟨by omega, by omega⟩, h.1, load_spec h ha hf ok.2.2 (by omega) hai hr hrt hra ok (fun I1 o1 hx => ⟨hb.1, clear_spec hb (fun I2 o2 hH => ?_)⟩)⟩
  have e0 : min (((ml n w N).length : Nat) : Int) 120 = ((ml n w N).length : Int) := by omega
  have ex : I2 (i + 123) = I1 (i + 123) := o2 _ (by omega) (by omega) (by omega)
  have hx2 : ∀ j, j < (ml n w N).length → I2 (i + 123) j = vecM (ml n w N) (cf f) j := fun j hj => by
    rw [ex, hx j (by omega), if_pos (by omega), tr_vec (D := (bd n).toNat) (by omega) (cf f) j hj]
  rw [e0]
  refine loop (ml n w N).length 0 I2 (by omega) (by omega) (fun j j1 j2 j3 j4 => (o2 j j2 j3 j4).trans (o1 j j1)) (fun j hj => by rw [hx2 j hj]; exact cf_r hp.1 ok.1 _) (fun j hj => absurd hj (Nat.not_lt_zero _)) ?_ (Nat.zero_le _) hH
  exact sub_of_zero hGS (fun j hj => by rw [hx2 j hj]; omega)
end R2g

