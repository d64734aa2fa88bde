/-! ===== X7: terms and the whole tape; Arrays.fill ===== -/
theorem fill_spec {G : Gl} {S : Sh} {R : MR} {Q : Sh → MI → MR → Prop} {I : MI} {c L : Nat} {v : Int} (h : sT S c = 21) (hl : sL S c = L) (hL : L ≤ 100000) (hq : ∀ I', off1 I I' c → (∀ j, j < L → I' c j = v) → Q S I' R) : CV G MJ7_fill_53178 [vR c, vI v] S I R Q := by
  have loop : ∀ (k i : Nat) (I1 : MI), L - i = k → i ≤ L → off1 I I1 c → (∀ j, j < i → I1 c j = v) → LJ7_fill_53178_5 G c v (i : Int) (L : Int) S I1 R Q := by
    intro k
    induction k with
    | zero => intro i I1 hk hi ho hj; exact bJ7_fill_53178_5 (br_t (by omega) (hq I1 ho (fun j hj2 => hj j (by omega))))
    | succ k ih =>
      intro i I1 hk hi ho hj
      refine bJ7_fill_53178_5 (br_f (by omega) ⟨h, ⟨by omega, by rw [hl]; omega⟩, fun I13 e13 => ?_⟩)
      rw [show Int.toNat (i : Int) = i by omega] at e13
      rw [add1 (by omega)]
      refine ih (i + 1) I13 (by omega) (by omega) (fun b hb => by rw [u_n e13 hb]; exact ho b hb) (fun j hj2 => ?_)
      by_cases hji : j = i
      · subst hji; exact u_s e13
      · rw [u_o e13 hji]; exact hj j (by omega)
  refine bJ7_fill_53178 ⟨by rw [h]; decide, ?_⟩
  rw [hl]
  exact loop L 0 I (by omega) (by omega) (fun _ _ => rfl) (fun j hj => by omega)
theorem insAll_srt {p : Int} : ∀ {raw L : List Tm}, Srt L → Srt (insAll p L raw)
  | [], _, h => h
  | t :: raw, L, h => insAll_srt (raw := raw) (ins_srt h)
theorem insAll_cf {p : Int} (k : Int) : ∀ {raw L : List Tm}, cf (insAll p L raw) k % p = (cf L k + cf raw k) % p
  | [], L => by show cf L k % p = (cf L k + 0) % p; rw [Int.add_zero]
  | t :: raw, L => by
    show cf (insAll p (insT p L t.1 t.2) raw) k % p = _
    rw [insAll_cf k (raw := raw), Int.add_emod, ins_cf, ← Int.add_emod, show cf (t :: raw) k = (if t.1 = k then t.2 else 0) + cf raw k from rfl]
    congr 1
    omega
theorem insAll_canon {p : Int} (hp : 0 < p) {raw : List Tm} (h : Red0 p raw) : nz (insAll p [] raw) = canon p raw := by
  refine canon_uniq hp (nz_can (insAll_srt List.Pairwise.nil) (insAll_red0 hp h (fun t ht => by cases ht))) h (fun k => ?_)
  rw [nz_cf, insAll_cf]
  show (0 + cf raw k) % p = _
  rw [Int.zero_add]
/-- the tape's cells, its bytes and their number stay -/
def offP (I I' : MI) (t : Nat) : Prop := (∀ c, (c < t ∨ t + 5 < c ∨ c = t + 1) → I' c = I c) ∧ I' t 1 = I t 1
theorem offP.rf {I : MI} {t : Nat} : offP I I t := ⟨fun _ _ => rfl, rfl⟩
theorem offP.tr {I I1 I2 : MI} {t : Nat} (h : offP I I1 t) (h2 : offP I1 I2 t) : offP I I2 t := ⟨fun c x => (h2.1 c x).trans (h.1 c x), h2.2.trans h.2⟩
theorem offE.P {I I' : MI} {t : Nat} (h : offE I I' t) : offP I I' t := ⟨fun c x => h.1 c (by omega) (by omega), h.2⟩
theorem offP.b {I I' : MI} {t n : Nat} {b : Nat → Int} (h : offP I I' t) (hb : TpB I t b n) : TpB I' t b n := hb.o h.2 (h.1 _ (by omega))
theorem offE.has {I I' : MI} {t : Nat} {L : List Tm} (h : offE I I' t) (hL : Has I (t + 2) L) : Has I' (t + 2) L :=
  ⟨by rw [h.1 (t + 2) (by omega) (by omega)]; exact hL.1, fun i x hx => by rw [h.1 (t + 2 + 1) (by omega) (by omega), h.1 (t + 2 + 2) (by omega) (by omega)]; exact hL.2 i x hx⟩
theorem Flt.e {I I' : MI} {t q : Nat} {f : Fl} (h : Flt I t q f) (ho : I' t = I t) : Flt I' t q f := ⟨by rw [ho]; exact h.1, by rw [ho]; exact h.2.1, by rw [ho]; exact h.2.2.1, h.2.2.2⟩
section R7c
variable {G : Gl} {S : Sh} {R : MR} {t r nu : Nat} {b : Nat → Int} {n : Nat} {p nv : Int} {w : Nat → Int} {Q : Sh → MI → MR → Prop}
/-- the ring beside a tape -/
def RgT (S : Sh) (R : MR) (t r nu : Nat) : Prop := RingL S R r ∧ R r 1 = nu ∧ (r + 8 < t ∨ t + 5 < r) ∧ (nu < t ∨ t + 5 < nu)
def RgV (S : Sh) (I : MI) (r nu : Nat) (nv p : Int) (w : Nat → Int) : Prop := RingV I r nv w ∧ NumS S I nu p
theorem RgV.o {I I' : MI} (h : RgV S I r nu nv p w) (hg : RgT S R t r nu) (ho : offP I I' t) : RgV S I' r nu nv p w := by
  obtain ⟨g1, g2, g3, g4⟩ := hg
  refine ⟨h.1.o (ho.1 _ (by omega)) (ho.1 _ (by omega)), h.2.1, ?_, h.2.2.2⟩
  rw [ho.1 nu (by omega)]; exact h.2.2.1
theorem sm65 {I : MI} {q : Nat} {minus : Bool} {num : Int} {e : Nat → Int} {M : List Tm} (h : TpS S R t) (hg : RgT S R t r nu) (hv : RgV S I r nu nv p w) (hT : Tok I t q num e) (hM : Has I (t + 2) M) (hMl : M.length < 101) (hM0 : Red0 p M) (hnum : 0 ≤ num ∧ num < p) (he : okE nv e)
    (hq : ∀ I', offP I I' t → I' t = I t → Has I' (t + 2) (insT p M (key w (e 0) (e 1) (e 2)) (if minus = true then ngP p num else num)) → Q S I' R) : LX7_readSummand_65 G t (if minus = true then 1 else 0) r S I R Q := by
  have h0 := he 0 (by omega)
  have h1 := he 1 (by omega)
  have h2 := he 2 (by omega)
  refine bX7_readSummand_65 ⟨h.1, ?_⟩
  have t0 : Int.toNat 0 = 0 := rfl
  have t1 : Int.toNat 1 = 1 := rfl
  have t2 : Int.toNat 2 = 2 := rfl
  rw [h.2.1.2.2, h.2.2.1.2.2.1, h.2.2.1.2.2.2, t0, t1, t2, hT.2.2.2.2 0 (by omega), hT.2.2.2.2 1 (by omega), hT.2.2.2.2 2 (by omega), hT.2.1, hT.2.2.2.1, h.2.1.2.1, hg.2.1, v4n hv.2 hnum, v6mono hg.1 hv.1 (by omega) (by omega) (by omega)]
  refine ⟨rfl, ⟨by omega, by omega⟩, ⟨by omega, by omega⟩, ⟨by omega, by omega⟩, hg.1.1, p6mono hg.1, br_f (fun z => z rfl) ?_⟩
  have fin : ∀ I', off3 I I' (t + 2) → offP I I' t ∧ I' t = I t := fun I' ho => ⟨⟨fun c hc => ho c (by omega) (by omega) (by omega), by rw [ho t (by omega) (by omega) (by omega)]⟩, ho t (by omega) (by omega) (by omega)⟩
  cases minus with
  | false => exact br_t rfl ⟨h.2.2.2.1, add_spec h.2.2.2 hM (by omega) hMl hv.2 hM0 hnum (fun I' o _ hh => hq I' (fin I' o).1 (fin I' o).2 hh)⟩
  | true => exact br_f (by decide) ⟨hv.2.1, p4n hv.2, h.2.2.2.1, add_spec h.2.2.2 hM (by omega) hMl hv.2 hM0 (ngP_r hnum) (fun I' o _ hh => hq I' (fin I' o).1 (fin I' o).2 hh)⟩
theorem sm65b {I : MI} {q : Nat} {x : Int} {f : Fl} (h : TpS S R t) (hg : RgT S R t r nu) (hT : Flt I t q f) (hq : Q S I R) : LX7_readSummand_65 G t x r S I R Q := by
  refine bX7_readSummand_65 ⟨h.1, ?_⟩
  rw [h.2.1.2.2, h.2.2.1.2.2.1, h.2.2.1.2.2.2, hT.2.1]
  exact ⟨rfl, ⟨by omega, by omega⟩, ⟨by omega, by omega⟩, ⟨by omega, by omega⟩, hg.1.1, p6mono hg.1, br_t hT.2.2.2 hq⟩
theorem sm32b {I : MI} {q : Nat} {x y : Int} {f : Fl} (h : TpS S R t) (hT : Flt I t q f) (hq : LX7_readSummand_65 G t x r S I R Q) : LX7_readSummand_32 G t x r y S I R Q := by
  refine bX7_readSummand_32 ⟨fun _ => hq, fun _ => ⟨h.1, br_t ?_ hq⟩⟩
  rw [hT.2.1]; exact hT.2.2.2
theorem sm32 {x : Int} (h : TpS S R t) (hg : RgT S R t r nu) (hF : ∀ I' q' f, q' ≤ n → Flt I' t q' f → True) : ∀ (K i q : Nat) (I : MI) (num : Int) (e : Nat → Int), q ≤ n → n - sk b n q ≤ K → i ≤ sk b n q → TpB I t b n → RgV S I r nu nv p w → Tok I t q num e → (0 ≤ num ∧ num < p) → okE nv e →
    (∀ I' q' f, facs b n p nv K (sk b n q) num e = Sum.inl f → q' ≤ n → offE I I' t → Flt I' t q' f → LX7_readSummand_65 G t x r S I' R Q) →
    (∀ I' q' st, facs b n p nv K (sk b n q) num e = Sum.inr st → q' ≤ n → sk b n q' = st.1 → offE I I' t → Tok I' t q' st.2.1 st.2.2 → LX7_readSummand_65 G t x r S I' R Q) →
    LX7_readSummand_32 G t x r (i : Int) S I R Q := by
  intro K
  induction K with
  | zero =>
    intro i q I num e hqn hK hi hb hv hT hnum he h1 h2
    have hsn : ¬ isF b n nv (sk b n q) := fun z => by have := z.1; omega
    refine bX7_readSummand_32 ⟨fun _ => h2 I q _ rfl hqn rfl offE.rf hT, fun _ => ⟨h.1, ?_⟩⟩
    rw [hT.2.1]
    refine br_f (fun z => z rfl) (factorIsAhead_spec h (by have := hg.2.2; omega) (by have := hg.2.2; omega) hg.1.1 hv.1 hb hT.1 hqn (fun I' o1 o2 o3 => absurd o3 hsn) (fun I' o1 o2 o3 => br_t rfl ?_))
    exact h2 I' (sk b n q) _ rfl (sk_le hqn) (sk_sk hqn) (o1.E (by decide)) (hT.k5 o1 o2)
  | succ K ih =>
    intro i q I num e hqn hK hi hb hv hT hnum he h1 h2
    have hn := hb.2.1
    have hp := hv.2.2.2
    rw [facs] at h1 h2
    by_cases hf : isF b n nv (sk b n q)
    · rw [if_pos hf] at h1 h2
      refine bX7_readSummand_32 (br_f (by have := hf.1; omega) ⟨h.1, ?_⟩)
      rw [hT.2.1]
      refine br_f (fun z => z rfl) (factorIsAhead_spec h (by have := hg.2.2; omega) (by have := hg.2.2; omega) hg.1.1 hv.1 hb hT.1 hqn (fun I1 o1 o2 o3 => br_f (by decide) ⟨h.1, ?_⟩) (fun I' o1 o2 o3 => absurd hf o3))
      have O1 := o1.E (t := t) (by decide)
      have hv1 := hv.o hg O1.P
      have hss := sk_sk (b := b) hqn
      refine readFactor_spec (q := sk b n q) h (by have := hg.2.2; omega) (by have := hg.2.2; omega) hg.1.1 hv1.1 hg.2.1 hv1.2 (by have := hg.2.2; omega) (O1.b hb) (hT.k5 o1 o2) (sk_le hqn) (by rw [hss]; exact hf) hnum (fun j hj => ⟨(he j hj).1, (he j hj).2.1⟩) (fun I2 q2 f ef hq2 O2 hF2 => ?_) (fun I2 q2 st ef hq2 hsk O2 hT2 => ?_)
      · rw [hss] at ef
        rw [ef] at h1
        exact sm32b h hF2 (h1 I2 q2 f rfl hq2 (O1.tr O2) hF2)
      · rw [hss] at ef
        rw [ef] at h1 h2
        have ok := fac_ok hp.1 hv.1.2.1 hf hnum he ef
        rw [add1 (by have := hf.1; omega)]
        refine ih (i + 1) q2 I2 st.2.1 st.2.2 hq2 (by rw [hsk]; omega) (by rw [hsk]; omega) (O2.b (O1.b hb)) (hv1.o hg O2.P) hT2 ok.2.2.2.1 ok.2.2.2.2 (fun I3 q3 f3 e3 l3 O3 F3 => h1 I3 q3 f3 (by rw [hsk] at e3; exact e3) l3 (O1.tr (O2.tr O3)) F3) (fun I3 q3 f3 e3 l3 k3 O3 F3 => h2 I3 q3 f3 (by rw [hsk] at e3; exact e3) l3 k3 (O1.tr (O2.tr O3)) F3)
    · rw [if_neg hf] at h1 h2
      refine bX7_readSummand_32 ⟨fun _ => h2 I q _ rfl hqn rfl offE.rf hT, fun _ => ⟨h.1, ?_⟩⟩
      rw [hT.2.1]
      refine br_f (fun z => z rfl) (factorIsAhead_spec h (by have := hg.2.2; omega) (by have := hg.2.2; omega) hg.1.1 hv.1 hb hT.1 hqn (fun I' o1 o2 o3 => absurd o3 hf) (fun I' o1 o2 o3 => br_t rfl ?_))
      exact h2 I' (sk b n q) _ rfl (sk_le hqn) (sk_sk hqn) (o1.E (by decide)) (hT.k5 o1 o2)
/-- one term -/
theorem readSummand_spec {I : MI} {q : Nat} {minus : Bool} {M : List Tm} (h : TpS S R t) (hg : RgT S R t r nu) (hb : TpB I t b n) (hv : RgV S I r nu nv p w) (h5 : I t 5 = (q : Int)) (h2 : I t 2 = 0) (h3 : I t 3 = -1) (hqn : q ≤ n) (hM : Has I (t + 2) M) (hMl : M.length < 101) (hM0 : Red0 p M)
    (hF : ∀ I' q' f, smd b n p nv w minus (sk b n q) = Sum.inl f → q' ≤ n → offP I I' t → Flt I' t q' f → Has I' (t + 2) M → Q S I' R)
    (hS : ∀ I' q' st, smd b n p nv w minus (sk b n q) = Sum.inr st → q' ≤ n → sk b n q' = st.1 → offP I I' t → I' t 5 = (q' : Int) → I' t 2 = 0 → I' t 3 = -1 → Has I' (t + 2) (insT p M st.2.1 st.2.2) → Q S I' R) : CV G MX7_readSummand [vR t, vI (if minus = true then 1 else 0), vR r] S I R Q := by
  have hp := hv.2.2.2
  refine bX7_readSummand ⟨h.1, fun I2 e2 => ?_⟩
  rw [h.2.1.2.2]
  refine fill_spec h.2.2.1.2.2.1 h.2.2.1.2.2.2 (by omega) (fun I10 o10 f10 => ⟨h.1, ?_⟩)
  have O10 : offE I I10 t := (offE.u e2 (by decide)).tr ⟨fun c x y => o10 c y, by rw [o10 t (by omega)]⟩
  have hT : Tok I10 t q 1 (fun _ => 0) := ⟨by rw [o10 t (by omega), u_o e2 (by omega)]; exact h5, by rw [o10 t (by omega), u_o e2 (by omega)]; exact h2, by rw [o10 t (by omega), u_o e2 (by omega)]; exact h3, by rw [o10 t (by omega), u_s e2], fun i hi => f10 i hi⟩
  have hv10 := hv.o hg O10.P
  have okz : okE nv (fun _ => 0) := fun i _ => ⟨Int.le_refl 0, by show (0 : Int) ≤ 30; decide, fun _ => rfl⟩
  have hss := sk_sk (b := b) hqn
  refine factorIsAhead_spec h (by have := hg.2.2; omega) (by have := hg.2.2; omega) hg.1.1 hv10.1 (O10.b hb) hT.1 hqn (fun I15 o1 o2 o3 => br_t (by decide) ?_) (fun I15 o1 o2 o3 => br_f (fun z => z rfl) ⟨h.1, ?_⟩)
  · have O15 : offE I I15 t := O10.tr (o1.E (by decide))
    refine sm32 (b := b) (n := n) (nv := nv) (p := p) (w := w) h hg (fun _ _ _ _ _ => trivial) n 0 (sk b n q) I15 1 (fun _ => 0) (sk_le hqn) (by omega) (by omega) (O15.b hb) (hv.o hg O15.P) (hT.k5 o1 o2) ⟨by omega, by omega⟩ okz (fun I' q' f ef hq' O F => ?_) (fun I' q' st ef hq' hsk O T => ?_)
    · rw [hss] at ef
      have hu : smd b n p nv w minus (sk b n q) = Sum.inl f := by unfold smd; rw [if_pos o3, ef]
      exact sm65b h hg F (hF I' q' f hu hq' (O15.tr O).P F ((O15.tr O).has hM))
    · rw [hss] at ef
      have hu : smd b n p nv w minus (sk b n q) = Sum.inr (st.1, (key w (st.2.2 0) (st.2.2 1) (st.2.2 2), if minus = true then ngP p st.2.1 else st.2.1)) := by unfold smd; rw [if_pos o3, ef]
      have ok := facs_ok hp.1 hv.1.2.1 n (sk b n q) 1 (fun _ => 0) st (sk_le hqn) hss ⟨by omega, by omega⟩ okz ef
      exact sm65 h hg (hv.o hg (O15.tr O).P) T ((O15.tr O).has hM) hMl hM0 ok.2.2.2.1 ok.2.2.2.2.1 (fun I3 o3 k3 hh => hS I3 q' _ hu hq' hsk ((O15.tr O).P.tr o3) (by rw [k3]; exact T.1) (by rw [k3]; exact T.2.1) (by rw [k3]; exact T.2.2.1) hh)
  · have hu : smd b n p nv w minus (sk b n q) = Sum.inl (1, (sk b n q : Int)) := if_neg o3
    rw [o2]
    refine blame_spec h (fun I27 k1 k2 k3 => ?_)
    have O27 : offE I I27 t := O10.tr ((o1.E (by decide)).tr (k1.E (by decide)))
    have hT15 := hT.k5 o1 o2
    have F : Flt I27 t (sk b n q) (1, (sk b n q : Int)) := ⟨by rw [k1.2 5 (by decide)]; exact o2, (k2 hT15.2.1).1, (k2 hT15.2.1).2, by show (1 : Int) ≠ 0; decide⟩
    exact sm32b h F (sm65b h hg F (hF I27 _ _ hu (sk_le hqn) O27.P F (O27.has hM)))
theorem rd131b {I : MI} {q : Nat} {f : Fl} {M : List Tm} (h : TpS S R t) (hT : Flt I t q f) (hM : Has I (t + 2) M) (hl : M.length ≤ 101) (hq : ∀ I', offP I I' t → Flt I' t q f → Q S I' R) : LX7_read_131 G t S I R Q := by
  refine bX7_read_131 ⟨h.1, ?_⟩
  rw [h.2.1.2.1]
  refine ⟨h.2.2.2.1, dropZeros_spec h.2.2.2 hM (by omega) hl (fun I' o hh => ⟨h.1, ?_⟩)⟩
  have o2 : I' t = I t := o t (by omega) (by omega) (by omega)
  have O : offP I I' t := ⟨fun c hc => o c (by omega) (by omega) (by omega), by rw [o2]⟩
  rw [h.2.1.2.1]
  refine ⟨h.2.2.2.1, fun _ => hq I' O (hT.e o2), fun _ => blame_spec h (fun I2 k1 k2 k3 => hq I2 (O.tr (k1.E (by decide)).P) ?_)⟩
  have hT2 := hT.e o2
  have := k3 (by rw [hT2.2.1]; exact hT2.2.2.2)
  exact ⟨by rw [k1.2 5 (by decide)]; exact hT2.1, this.1.trans hT2.2.1, this.2.trans hT2.2.2.1, hT.2.2.2⟩
theorem rd131 {I : MI} {M : List Tm} (h : TpS S R t) (hb : TpB I t b n) (h2 : I t 2 = 0) (h3 : I t 3 = -1) (hM : Has I (t + 2) M) (hl : M.length ≤ 101)
    (hF : ∀ I', 60 < (nz M).length → offP I I' t → I' t 2 = 3 → I' t 3 = (n : Int) → Q S I' R) (hS : ∀ I', ¬ 60 < (nz M).length → offP I I' t → I' t 2 = 0 → I' t 3 = -1 → Has I' (t + 2) (nz M) → Q S I' R) : LX7_read_131 G t S I R Q := by
  refine bX7_read_131 ⟨h.1, ?_⟩
  rw [h.2.1.2.1]
  refine ⟨h.2.2.2.1, dropZeros_spec h.2.2.2 hM (by omega) hl (fun I' o hh => ⟨h.1, ?_⟩)⟩
  have o2 : I' t = I t := o t (by omega) (by omega) (by omega)
  have O : offP I I' t := ⟨fun c hc => o c (by omega) (by omega) (by omega), by rw [o2]⟩
  rw [h.2.1.2.1, hh.1]
  refine ⟨h.2.2.2.1, fun c => hS I' (by omega) O (by rw [o2]; exact h2) (by rw [o2]; exact h3) hh, fun c => blame_spec h (fun I2 k1 k2 k3 => hF I2 (by omega) (O.tr (k1.E (by decide)).P) (k2 (by rw [o2]; exact h2)).1 ?_)⟩
  rw [(k2 (by rw [o2]; exact h2)).2, o2]; exact hb.1
theorem rd47b {I : MI} {x y : Int} {q : Nat} {f : Fl} {M : List Tm} (h : TpS S R t) (hT : Flt I t q f) (hM : Has I (t + 2) M) (hl : M.length ≤ 101) (hq : ∀ I', offP I I' t → Flt I' t q f → Q S I' R) : LX7_read_47 G t r x y S I R Q := by
  have k := rd131b (G := G) h hT hM hl hq
  refine bX7_read_47 ⟨fun _ => k, fun _ => ⟨h.1, br_t ?_ k⟩⟩
  rw [hT.2.1]; exact hT.2.2.2
theorem Has.k {I I' : MI} {t : Nat} {K : Nat → Prop} {M : List Tm} (hM : Has I (t + 2) M) (ho : offK I I' t K) : Has I' (t + 2) M :=
  ⟨by rw [ho.1 _ (by omega)]; exact hM.1, fun i x hx => by rw [ho.1 _ (by omega), ho.1 _ (by omega)]; exact hM.2 i x hx⟩
theorem rd47 (h : TpS S R t) (hg : RgT S R t r nu) : ∀ (K turn q : Nat) (minus : Bool) (raw : List Tm) (I : MI), n - sk b n q < K → 2 * turn ≤ sk b n q → q ≤ n → raw.length = turn → (∀ x ∈ raw, okTm p nv w x) → TpB I t b n → RgV S I r nu nv p w → I t 5 = (q : Int) → I t 2 = 0 → I t 3 = -1 → Has I (t + 2) (insAll p [] raw) →
    (∀ I' f, rdL b n p nv w K (sk b n q) minus raw = Sum.inl f → f.1 ≠ 0 → offP I I' t → I' t 2 = f.1 → I' t 3 = f.2 → Q S I' R) →
    (∀ I' L, rdL b n p nv w K (sk b n q) minus raw = Sum.inr L → offP I I' t → TpB I' t b n → I' t 2 = 0 → I' t 3 = -1 → L.length ≤ 101 → Has I' (t + 2) (insAll p [] L) → LX7_read_131 G t S I' R Q) →
    LX7_read_47 G t r (if minus = true then 45 else 43) (turn : Int) S I R Q := by
  intro K
  induction K with
  | zero => intro turn q minus raw I hK; omega
  | succ K ih =>
    intro turn q minus raw I hK ht hqn hrl hro hb hv h5 h2 h3 hM hF hS
    have hn := hb.2.1
    have hp := hv.2.2.2
    have hskn := sk_le (b := b) hqn
    have hlen := insAll_len p raw []
    have hlen2 : (insAll p [] raw).length ≤ turn := by rw [← hrl]; simpa using hlen
    have hM0 : Red0 p (insAll p [] raw) := insAll_red0 (by omega) (fun x hx => (hro x hx).2) (fun x hx => by cases hx)
    -- a term is read
    have main : LX7_read_77 G t r (turn : Int) (if minus = true then 1 else 0) t S I R Q := by
      refine bX7_read_77 ⟨h.1, readSummand_spec h hg hb hv h5 h2 h3 hqn hM (by omega) hM0 (fun I1 q1 f ef hq1 O1 F1 M1 => ⟨h.1, ?_⟩) (fun I1 q1 st es hq1 hsk O1 k5 k2 k3 M1 => ⟨h.1, ?_⟩)⟩
      · -- a fault
        have ur : rdL b n p nv w (K + 1) (sk b n q) minus raw = Sum.inl f := by rw [rdL, ef]
        have bad : ∀ (x : Int) (I' : MI) (q' : Nat), offP I1 I' t → Flt I' t q' f → Has I' (t + 2) (insAll p [] raw) → LX7_read_47 G t r x (w32 ((turn : Int) + 1)) S I' R Q := fun x I' q' o F' M' => rd47b h F' M' (by omega) (fun I'' o2 F2 => hF I'' f ur F'.2.2.2 (O1.tr (o.tr o2)) F2.2.1 F2.2.2.1)
        refine ahead_spec h (O1.b hb) F1.1 hq1 (fun I2 o2 h52 => ?_)
        have F2 := F1.k5 o2 h52
        have M2 := M1.k o2
        have bmp : ∀ (x : Int) (I105 : MI), I105 = up2 I2 t 5 (w32 ((I2 t 5) + 1)) → see b n (sk b n q1) ≠ -1 → LX7_read_47 G t r x (w32 ((turn : Int) + 1)) S I105 R Q := by
          intro x I105 e105 hne
          have hlt := see_lt hne
          rw [h52, add1 (by omega)] at e105
          have o3 : offK I2 I105 t K5 := offK.u e105 rfl
          exact bad x I105 _ ((o2.E (by decide)).P.tr (o3.E (by decide)).P) (F2.k5 o3 (u_s e105)) (M2.k o3)
        refine ⟨fun c => ⟨h.1, fun I105 e105 => bmp _ I105 e105 (by rw [c]; decide)⟩, fun c => ⟨fun c2 => ⟨fun c3 => ?_, fun c3 => ⟨h.1, blame_spec h (fun I3 k1 _ k3 => ?_)⟩⟩, fun c2 => ⟨h.1, fun I105 e105 => bmp _ I105 e105 (by rw [Decidable.not_not.mp c2]; decide)⟩⟩⟩
        · exact bad _ I2 _ (o2.E (by decide)).P F2 M2
        · have k4 := k3 (by rw [F2.2.1]; exact F2.2.2.2)
          exact bad _ I3 (sk b n q1) ((o2.E (by decide)).P.tr (k1.E (by decide)).P) ⟨by rw [k1.2 5 (by decide)]; exact h52, k4.1.trans F2.2.1, k4.2.trans F2.2.2.1, F2.2.2.2⟩ (M2.k k1)
      · -- a term
        have ok := smd_ok hp.1 hv.1.2.1 hv.1.2.2.2 hskn (sk_sk hqn) es
        have hro2 : ∀ x ∈ raw ++ [st.2], okTm p nv w x := fun x hx => (List.mem_append.mp hx).elim (hro x) (fun z => by rw [List.mem_singleton.mp z]; exact ok.2.2.2)
        have hrl2 : (raw ++ [st.2]).length = turn + 1 := by rw [List.length_append, hrl]; rfl
        rw [← insAll_snoc] at M1
        refine ahead_spec h (O1.b hb) k5 hq1 (fun I2 o2 h52 => ?_)
        rw [hsk] at h52 ⊢
        have O2 : offP I I2 t := O1.tr (o2.E (by decide)).P
        have M2 := M1.k o2
        have k22 : I2 t 2 = 0 := by rw [o2.2 2 (by decide)]; exact k2
        have k23 : I2 t 3 = -1 := by rw [o2.2 3 (by decide)]; exact k3
        have ur : rdL b n p nv w (K + 1) (sk b n q) minus raw = (if see b n st.1 = 43 then rdL b n p nv w K (sk b n (st.1 + 1)) false (raw ++ [st.2])
            else if see b n st.1 = 45 then rdL b n p nv w K (sk b n (st.1 + 1)) true (raw ++ [st.2])
            else if see b n st.1 = -1 then Sum.inr (raw ++ [st.2]) else Sum.inl (1, (st.1 : Int))) := by rw [rdL, es]
        rw [ur] at hF hS
        have go : ∀ (mn : Bool) (I105 : MI), I105 = up2 I2 t 5 (w32 ((I2 t 5) + 1)) → see b n st.1 = (if mn = true then 45 else 43) → LX7_read_47 G t r (see b n st.1) (w32 ((turn : Int) + 1)) S I105 R Q := by
          intro mn I105 e105 hx
          have hlt := see_lt (b := b) (n := n) (a := st.1) (by rw [hx]; cases mn <;> decide)
          have hge := sk_ge (b := b) (n := n) (a := st.1 + 1) hlt
          rw [h52, add1 (by omega)] at e105
          have o3 : offK I2 I105 t K5 := offK.u e105 rfl
          have O3 : offP I I105 t := O2.tr (o3.E (by decide)).P
          have er : (if see b n st.1 = 43 then rdL b n p nv w K (sk b n (st.1 + 1)) false (raw ++ [st.2])
            else if see b n st.1 = 45 then rdL b n p nv w K (sk b n (st.1 + 1)) true (raw ++ [st.2])
            else if see b n st.1 = -1 then Sum.inr (raw ++ [st.2]) else Sum.inl (1, (st.1 : Int))) = rdL b n p nv w K (sk b n (st.1 + 1)) mn (raw ++ [st.2]) := by
            cases mn with
            | false => have hx' : see b n st.1 = 43 := hx; rw [if_pos hx']
            | true => have hx' : see b n st.1 = 45 := hx; rw [if_neg (by rw [hx']; decide), if_pos hx']
          rw [er] at hF hS
          rw [hx, add1 (by omega)]
          exact ih (turn + 1) (st.1 + 1) mn (raw ++ [st.2]) I105 (by omega) (by omega) hlt hrl2 hro2 (O3.b hb) (hv.o hg O3) (u_s e105) (by rw [o3.2 2 (by decide)]; exact k22) (by rw [o3.2 3 (by decide)]; exact k23) (M2.k o3) (fun I' f h1 h2 h3 h4 h5 => hF I' f h1 h2 (O3.tr h3) h4 h5) (fun I' L h1 h2 h3 h4 h5 h6 h7 => hS I' L h1 (O3.tr h2) h3 h4 h5 h6 h7)
        refine ⟨fun c => ⟨h.1, fun I105 e105 => go false I105 e105 c⟩, fun c => ⟨fun c2 => ⟨fun c3 => ?_, fun c3 => ⟨h.1, ?_⟩⟩, fun c2 => ⟨h.1, fun I105 e105 => go true I105 e105 (Decidable.not_not.mp c2)⟩⟩⟩
        · rw [if_neg c, if_neg c2, if_pos c3] at hS
          have e := hS I2 _ rfl O2 (O2.b hb) k22 k23 (by omega) M2
          rw [add1 (by omega)]
          refine bX7_read_47 ⟨fun _ => e, fun _ => ⟨h.1, ⟨fun _ => e, fun _ => br_t c3 e⟩⟩⟩
        · rw [if_neg c, if_neg c2, if_neg c3] at hF
          rw [h52]
          refine blame_spec h (fun I3 j1 j2 j3 => rd47b h (q := st.1) (f := (1, (st.1 : Int))) ⟨by rw [j1.2 5 (by decide)]; exact h52, (j2 k22).1, (j2 k22).2, by show (1 : Int) ≠ 0; decide⟩ (M2.k j1) ?_ (fun I' o F' => hF I' _ rfl F'.2.2.2 (O2.tr ((j1.E (by decide)).P.tr o)) F'.2.1 F'.2.2.1))
          have := insAll_len p (raw ++ [st.2]) []
          simp only [List.length_nil] at this
          omega
    refine bX7_read_47 (br_f (by omega) ⟨h.1, ?_⟩)
    rw [h2]
    refine br_f (fun z => z rfl) ?_
    cases minus with
    | false => exact br_f (by decide) (br_t (by decide) main)
    | true => exact br_f (by decide) (br_f (fun z => z rfl) main)
/-- POLY's reading: a fault, or what is read stands in sum -/
theorem read_spec {I : MI} (h : TpS S R t) (hg : RgT S R t r nu) (hb : TpB I t b n) (hv : RgV S I r nu nv p w) (h2 : I t 2 = 0) (h3 : I t 3 = -1)
    (hF : ∀ I' f, rdP b n p nv w = Sum.inl f → f.1 ≠ 0 → offP I I' t → I' t 2 = f.1 → I' t 3 = f.2 → Q S I' R)
    (hS : ∀ I' L, rdP b n p nv w = Sum.inr L → offP I I' t → I' t 2 = 0 → I' t 3 = -1 → Has I' (t + 2) L → L.length ≤ 60 → Q S I' R) : CV G MX7_read [vR t, vR r] S I R Q := by
  have hn := hb.2.1
  have hp := hv.2.2.2
  refine bX7_read ⟨h.1, fun I2 e2 => ?_⟩
  rw [h.2.1.2.1]
  have o2 : offK I I2 t K5 := offK.u e2 rfl
  refine ⟨h.2.2.2.1, clear_spec h.2.2.2 (fun I9 o9 M9 => ⟨h.1, ?_⟩)⟩
  have kt : I9 t = I2 t := o9 t (by omega) (by omega) (by omega)
  have O9 : offP I I9 t := (o2.E (by decide)).P.tr ⟨fun c hc => o9 c (by omega) (by omega) (by omega), by rw [kt]⟩
  have h95 : I9 t 5 = ((0 : Nat) : Int) := by rw [kt, u_s e2]; rfl
  refine ahead_spec h (O9.b hb) h95 (Nat.zero_le _) (fun I13 o13 h135 => ?_)
  have O13 : offP I I13 t := O9.tr (o13.E (by decide)).P
  have k2 : I13 t 2 = 0 := by rw [o13.2 2 (by decide), kt, u_o e2 (by omega)]; exact h2
  have k3 : I13 t 3 = -1 := by rw [o13.2 3 (by decide), kt, u_o e2 (by omega)]; exact h3
  have M13 : Has I13 (t + 2) (insAll p [] []) := M9.k o13
  have s0 : sk b n 0 ≤ n := sk_le (Nat.zero_le _)
  -- what comes of a list of terms
  have fin : ∀ (I1 : MI), offP I I1 t → (∀ f, rdAll b n p nv w = Sum.inl f → f.1 ≠ 0 → ∀ I', offP I1 I' t → I' t 2 = f.1 → I' t 3 = f.2 → Q S I' R) ∧
      (∀ I' L, rdAll b n p nv w = Sum.inr L → offP I1 I' t → TpB I' t b n → I' t 2 = 0 → I' t 3 = -1 → L.length ≤ 101 → Has I' (t + 2) (insAll p [] L) → LX7_read_131 G t S I' R Q) := by
    intro I1 O1
    refine ⟨fun f ef hf I' o k2 k3 => hF I' f (by unfold rdP; rw [ef]) hf (O1.tr o) k2 k3, fun I' L eL o hb' k2 k3 hl hh => ?_⟩
    have ok := rdAll_ok hp.1 hv.1.2.1 hv.1.2.2.2 eL
    have ec : nz (insAll p [] L) = canon p L := insAll_canon (by omega) (fun x hx => (ok x hx).2)
    have ur : rdP b n p nv w = if 60 < (canon p L).length then Sum.inl (3, (n : Int)) else Sum.inr (canon p L) := by unfold rdP; rw [eL]
    have hl2 := insAll_len p L []
    simp only [List.length_nil] at hl2
    refine rd131 h hb' k2 k3 hh (by omega) (fun I2 c o2 a2 a3 => ?_) (fun I2 c o2 a2 a3 hh2 => ?_)
    · rw [ec] at c
      rw [if_pos c] at ur
      exact hF I2 _ ur (by show (3 : Int) ≠ 0; decide) (O1.tr (o.tr o2)) a2 a3
    · rw [ec] at c hh2
      rw [if_neg c] at ur
      exact hS I2 _ ur (O1.tr (o.tr o2)) a2 a3 hh2 (by omega)
  refine ⟨fun c => ?_, fun c => ?_⟩
  · have ua : rdAll b n p nv w = rdL b n p nv w (n + 1) (sk b n 0) false [] := if_neg c
    refine bX7_read_28 (br_t (by decide) ?_)
    have f := fin I13 O13
    rw [ua] at f
    have hsk0 := sk_sk (b := b) (n := n) (a := 0) (Nat.zero_le _)
    refine rd47 (b := b) (n := n) (p := p) (nv := nv) (w := w) h hg (n + 1) 0 (sk b n 0) false [] I13 (by omega) (by omega) s0 rfl (fun x hx => by cases hx) (O13.b hb) (hv.o hg O13) h135 k2 k3 M13 (fun I' ff e1 e2 e3 e4 e5 => f.1 ff (by rw [hsk0] at e1; exact e1) e2 I' e3 e4 e5) (fun I' L e1 e2 e3 e4 e5 e6 e7 => f.2 I' L (by rw [hsk0] at e1; exact e1) e2 e3 e4 e5 e6 e7)
  · have c' : see b n (sk b n 0) = 45 := Decidable.not_not.mp c
    have ua : rdAll b n p nv w = rdL b n p nv w (n + 1) (sk b n (sk b n 0 + 1)) true [] := if_pos c'
    have hlt := see_lt (b := b) (n := n) (a := sk b n 0) (by rw [c']; decide)
    refine bX7_read_28 (br_f (fun z => z rfl) ⟨h.1, fun I42 e42 => ?_⟩)
    rw [h135, add1 (by omega)] at e42
    have o3 : offK I13 I42 t K5 := offK.u e42 rfl
    have O3 : offP I I42 t := O13.tr (o3.E (by decide)).P
    have f := fin I42 O3
    rw [ua] at f
    refine rd47 (b := b) (n := n) (p := p) (nv := nv) (w := w) h hg (n + 1) 0 (sk b n 0 + 1) true [] I42 (by omega) (by omega) hlt rfl (fun x hx => by cases hx) (O3.b hb) (hv.o hg O3) (u_s e42) (by rw [o3.2 2 (by decide)]; exact k2) (by rw [o3.2 3 (by decide)]; exact k3) (M13.k o3) (fun I' ff e1 e2 e3 e4 e5 => f.1 ff e1 e2 I' e3 e4 e5) (fun I' L e1 e2 e3 e4 e5 e6 e7 => f.2 I' L e1 e2 e3 e4 e5 e6 e7)
end R7c

