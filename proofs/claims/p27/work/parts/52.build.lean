/-! ===== X2: an ideal is built ===== -/
def Fs (f : Nat → List Tm) (bits : Int) (nl : Nat) : List Tm → Prop := fun g => ∃ k, k < nl ∧ bitI bits k = 1 ∧ g = f k
def led (p n : Int) (w : Nat → Int) (F : List Tm → Prop) (D : Nat) (c : Nat) : Prop := LdU p (ml n w D).length (GenU p n w F D) c
def prd (p n : Int) (w : Nat → Int) (F : List Tm → Prop) (D : Nat) (c : Nat) : Prop := ∃ c0 v : Nat, (v : Int) < n ∧ led p n w F D c0 ∧ (ml n w D).getD c 0 = (ml n w D).getD c0 0 + vkey w (v : Int) - 262143
/-- 0 no lead, 2 a corner, 1 another lead -/
def KdU (p n : Int) (w : Nat → Int) (F : List Tm → Prop) (D : Nat) (kd : Nat → Int) : Prop := ∀ c, c < (ml n w D).length → (kd c = 0 ∨ kd c = 1 ∨ kd c = 2) ∧ (kd c ≠ 0 ↔ led p n w F D c) ∧ (kd c = 1 ↔ prd p n w F D c)
def IdT (I : MI) (i : Nat) (p n : Int) (w : Nat → Int) (F : List Tm → Prop) : Prop := EchU p (mB n w).length (fun c => I (i + 122) c ≠ 0) (fun l => I (i + 2 + l)) (GenU p n w F (bd n).toNat) ∧ (∀ l, l < (mB n w).length → I (i + 122) l ≠ 0 → ∀ c, c < (mB n w).length → 0 ≤ I (i + 2 + l) c ∧ I (i + 2 + l) c < p) ∧ KdU p n w F (bd n).toNat (I (i + 122))
/-- never written ahead of the leads -/
def IdZ (I : MI) (i : Nat) : Prop := ∀ l c, l < 120 → c < l → I (i + 2 + l) c = 0
theorem vkey_up {w : Nat → Int} {n : Int} {v : Nat} (hw : wtOK w) (hn : 1 ≤ n ∧ n ≤ 3) (hv : (v : Int) < n) : 262143 < vkey w (v : Int) := by
  have h0 := hw 0 (by omega)
  have h1 := hw 1 (by omega)
  have h2 := hw 2 (by omega)
  have h3 : v = 0 ∨ v = 1 ∨ v = 2 := by omega
  rcases h3 with rfl | rfl | rfl
  · have e : vkey w ((0 : Nat) : Int) = key w 1 0 0 := rfl
    rw [e]; unfold key pk; omega
  · have e : vkey w ((1 : Nat) : Int) = key w 0 1 0 := rfl
    rw [e]; unfold key pk; omega
  · have e : vkey w ((2 : Nat) : Int) = key w 0 0 1 := rfl
    rw [e]; unfold key pk; omega
theorem one_mem {w : Nat → Int} {n : Int} {D : Nat} (hw : wtOK w) (hD : 0 < D) : (262143 : Int) ∈ ml n w D := by
  have e : (262143 : Int) = key w 0 0 0 := by unfold key pk; omega
  have hx : exx (key w 0 0 0) = 0 := exx_pk (by omega) (by omega) (by omega)
  have hy : exy (key w 0 0 0) = 0 := exy_pk (by omega) (by omega) (by omega)
  have hz : exz (key w 0 0 0) = 0 := exz_pk (by omega) (by omega) (by omega)
  have hg : gk w (key w 0 0 0) := gk_key (by omega) (by omega) (by omega)
  have hd : dg (key w 0 0 0) = 0 := by
    have : dg (key w 0 0 0) = dgw w (key w 0 0 0) := hg
    rw [this]; unfold dgw; rw [hx, hy, hz]; omega
  rw [e]
  exact mem_of hw hg ⟨fun _ => hy, fun _ => hz⟩ (by omega)
theorem bd_n (n : Int) : 8 ≤ bd n ∧ bd n ≤ 24 := by
  unfold bd
  by_cases h : n = 1
  · rw [if_pos h]; omega
  · rw [if_neg h]
    by_cases h2 : n = 2
    · rw [if_pos h2]; omega
    · rw [if_neg h2]; omega
theorem gen_one {p n : Int} {w : Nat → Int} {F : List Tm → Prop} {D : Nat} {f : List Tm} (hw : wtOK w) (hD : 0 < D) (hf : F f) : GenU p n w F D (vecM (ml n w D) (cf f)) :=
  spn_in ⟨f, 262143, hf, one_mem hw hD, by rw [shf_one]⟩
/-- a product begins behind -/
theorem mulv_zero {M : List Int} {m : Int} {x : Vc} {c : Nat} (hi : Inc M) (hm : 262143 < m) (hc : c < M.length) (h : ∀ j, j < c → x j = 0) : ∀ j, j < c + 1 → mulv M m x j = 0 := by
  intro j hj
  unfold mulv ext
  by_cases q : M.getD j 0 - m + 262143 ∈ M
  · rw [if_pos q]
    refine h _ (inc_lt hi (List.idxOf_lt_length_of_mem q) hc ?_)
    rw [idx_at q]
    by_cases e : j = c
    · rw [e]; omega
    · have := inc_nd hi (by omega) hc (show j < c by omega)
      omega
  · rw [if_neg q]
theorem mulv_r {M : List Int} {m p : Int} {x : Vc} (hp : 2 ≤ p) (h : ∀ j, j < M.length → 0 ≤ x j ∧ x j < p) (c : Nat) : 0 ≤ mulv M m x c ∧ mulv M m x c < p := by
  unfold mulv ext
  by_cases q : M.getD c 0 - m + 262143 ∈ M
  · rw [if_pos q]; exact h _ (List.idxOf_lt_length_of_mem q)
  · rw [if_neg q]; omega
theorem cf_in {L : List Tm} (h : Srt L) {t : Tm} (ht : t ∈ L) : cf L t.1 = t.2 := by
  induction L with
  | nil => exact absurd ht List.not_mem_nil
  | cons a L ih =>
    have e : cf (a :: L) t.1 = (if a.1 = t.1 then a.2 else 0) + cf L t.1 := rfl
    rw [e]
    rcases List.mem_cons.mp ht with q | q
    · rw [q, if_pos rfl, cf_hd h]; omega
    · have := h.head t q
      rw [if_neg (by omega), ih h.tail q]; omega
theorem cf_r {p : Int} {L : List Tm} (hp : 2 ≤ p) (h : Can p L) (k : Int) : 0 ≤ cf L k ∧ cf L k < p := by
  rcases Classical.em (∃ t ∈ L, t.1 = k) with ⟨t, ht, e⟩ | q
  · have h1 := cf_in h.1 ht
    rw [e] at h1
    have h2 := h.2 t ht
    omega
  · have : cf L k = 0 := cf_none (fun t ht e => q ⟨t, ht, e⟩)
    omega
section R2e
variable {G : Gl} {S : Sh} {R : MR} {i r pa nu nl : Nat} {pr : Nat} {n bits : Int} {w : Nat → Int} {P : Nat → Nat} {f : Nat → List Tm} {Q : Sh → MI → MR → Prop}
/-- an array of polynomials -/
def SlN (S : Sh) (R : MR) (pa nl : Nat) (P : Nat → Nat) : Prop := (sT S pa = 24 ∧ sL S pa = nl) ∧ ∀ k, k < nl → R pa k = P k ∧ PolyS S R (P k) 60
def mrk (p n : Int) (w : Nat → Int) (F : List Tm → Prop) (D cc vv : Nat) (c : Nat) : Prop := ∃ c0 v : Nat, (v : Int) < n ∧ led p n w F D c0 ∧ (ml n w D).getD c 0 = (ml n w D).getD c0 0 + vkey w (v : Int) - 262143 ∧ (c0 < cc ∨ (c0 = cc ∧ v < vv))
theorem build_marks {I : MI} {F : List Tm → Prop} (h : IdS S R i) (hr : RingL S R r) (hra : apR r i (i + 123)) (hrt : RingT I r n w) (hF : ∀ g, F g → okQ (pr : Int) n w g)
    (h0 : ∀ c, c < (mB n w).length → (I (i + 122) c = 0 ∨ I (i + 122) c = 2) ∧ (I (i + 122) c ≠ 0 ↔ led (pr : Int) n w F (bd n).toNat c))
    (hq : ∀ I', off1 I I' (i + 122) → KdU (pr : Int) n w F (bd n).toNat (I' (i + 122)) → (∀ c, I' (i + 122) c ≠ 0 ↔ I (i + 122) c ≠ 0) → Q S I' R) : LX2_build_141 G i r ((mB n w).length : Int) 0 S I R Q := by
  have hb := bd_n n
  have hw := hrt.1.2.2.2
  have hn := hrt.1.2.1
  have hl : (mB n w).length ≤ 120 := (ml_bd hn hw).1
  have hinc : Inc (mB n w) := ml_inc (by omega)
  unfold apR at hra
  have inner : ∀ (k v c : Nat) (I1 : MI), n.toNat - v = k → (v : Int) ≤ n → c < (mB n w).length → off1 I I1 (i + 122) → (∀ j, j < (mB n w).length → (I1 (i + 122) j = 0 ∨ I1 (i + 122) j = 1 ∨ I1 (i + 122) j = 2) ∧ (I1 (i + 122) j = 1 ↔ mrk (pr : Int) n w F (bd n).toNat c v j)) → (∀ j, I1 (i + 122) j ≠ 0 ↔ I (i + 122) j ≠ 0) →
      (∀ I2, off1 I I2 (i + 122) → (∀ j, j < (mB n w).length → (I2 (i + 122) j = 0 ∨ I2 (i + 122) j = 1 ∨ I2 (i + 122) j = 2) ∧ (I2 (i + 122) j = 1 ↔ mrk (pr : Int) n w F (bd n).toNat (c + 1) 0 j)) → (∀ j, I2 (i + 122) j ≠ 0 ↔ I (i + 122) j ≠ 0) → LX2_build_141 G i r ((mB n w).length : Int) ((c + 1 : Nat) : Int) S I2 R Q) → LX2_build_151 G i r ((mB n w).length : Int) (c : Int) (v : Int) S I1 R Q := by
    intro k
    induction k with
    | zero =>
      intro v c I1 hk hv hc ho h1 h2 hout
      refine bX2_build_151 ⟨hr.1, ?_⟩
      rw [ho r (by omega), hrt.1.1, add1 (by omega)]
      refine br_t (by omega) (hout I1 ho (fun j hj => ⟨(h1 j hj).1, (h1 j hj).2.trans ⟨?_, ?_⟩⟩) h2)
      · rintro ⟨c0, v0, a, b, e, d⟩
        exact ⟨c0, v0, a, b, e, by omega⟩
      · rintro ⟨c0, v0, a, b, e, d⟩
        exact ⟨c0, v0, a, b, e, by omega⟩
    | succ k ih =>
      intro v c I1 hk hv hc ho h1 h2 hout
      have rv := hr.2.2.2.2 v (by omega)
      refine bX2_build_151 ⟨hr.1, ?_⟩
      rw [ho r (by omega), hrt.1.1, h.2.1.2.1, h.2.2.2.2.1.1, h.2.2.2.2.1.2, hr.2.1.2.2.2, hr.2.2.1.2.2.2, hr.2.2.2.1.2.2.2, show Int.toNat (c : Int) = c by omega, show Int.toNat (v : Int) = v by omega, rv.1, rv.2.1, rv.2.2, add1 (by omega), add1 (by omega), ho (r + 6 + v) (by omega)]
      refine br_f (by omega) ⟨h.1, rfl, ⟨by omega, by omega⟩, fun k0 => ?_, fun k0 => ⟨rfl, ⟨by omega, by omega⟩, rfl, ⟨by omega, by omega⟩, ?_⟩⟩
      · -- no lead
        have hnl : ¬ led (pr : Int) n w F (bd n).toNat c := fun q => ((h2 c).mpr ((h0 c hc).2.mpr q)) k0
        refine hout I1 ho (fun j hj => ⟨(h1 j hj).1, (h1 j hj).2.trans ⟨?_, ?_⟩⟩) h2
        · rintro ⟨c0, v0, a, b, e, d⟩
          exact ⟨c0, v0, a, b, e, by omega⟩
        · rintro ⟨c0, v0, a, b, e, d⟩
          have : c0 ≠ c := fun q => hnl (q ▸ b)
          exact ⟨c0, v0, a, b, e, by omega⟩
      · have hlc : led (pr : Int) n w F (bd n).toNat c := (h0 c hc).2.mp ((h2 c).mp k0)
        have hcol := hrt.2.2 v (by omega) c ((mB n w).getD c 0) (by rw [getDl hc, List.getElem?_eq_getElem hc])
        have key : ∀ j, j < (mB n w).length → (mrk (pr : Int) n w F (bd n).toNat c (v + 1) j ↔ mrk (pr : Int) n w F (bd n).toNat c v j ∨ (mB n w).getD j 0 = (mB n w).getD c 0 + vkey w (v : Int) - 262143) := by
          intro j hj
          constructor
          · rintro ⟨c0, v0, a, b, e, d⟩
            by_cases q : c0 = c ∧ v0 = v
            · rw [q.1, q.2] at e; exact Or.inr e
            · exact Or.inl ⟨c0, v0, a, b, e, by omega⟩
          · rintro (⟨c0, v0, a, b, e, d⟩ | e)
            · exact ⟨c0, v0, a, b, e, by omega⟩
            · exact ⟨c, v, by omega, hlc, e, by omega⟩
        refine bX2_markNoCorner ?_
        rcases hcol with ⟨e, hnm⟩ | ⟨c2, hc2, e⟩
        · rw [e]
          refine br_t (by omega) (ih (v + 1) c I1 (by omega) (by omega) hc ho (fun j hj => ⟨(h1 j hj).1, (h1 j hj).2.trans ?_⟩) h2 hout)
          rw [key j hj]
          exact ⟨Or.inl, fun q => q.resolve_right (fun z => hnm (by rw [← z]; exact getDl_mem hj))⟩
        · have hc2l : c2 < (mB n w).length := (List.getElem?_eq_some_iff.mp hc2).1
          have hc2e : (mB n w).getD c2 0 = (mB n w).getD c 0 + vkey w (v : Int) - 262143 := by rw [List.getD_eq_getElem?_getD, hc2]; rfl
          rw [e]
          refine br_f (by omega) (br_f (by omega) ⟨h.1, ?_⟩)
          rw [h.2.1.2.1, h.2.2.2.2.1.1, h.2.2.2.2.1.2, show Int.toNat (c2 : Int) = c2 by omega]
          have hlc2 : led (pr : Int) n w F (bd n).toNat c2 := lead_mul hw (by omega) hn hF (v := v) (by omega) hlc hc2l hc2e
          refine ⟨rfl, ⟨by omega, by omega⟩, fun I16 e16 => ih (v + 1) c I16 (by omega) (by omega) hc (fun b hb2 => by rw [u_n e16 hb2]; exact ho b hb2) (fun j hj => ?_) (fun j => ?_) hout⟩
          · by_cases q : j = c2
            · subst q
              rw [u_s e16]
              exact ⟨Or.inr (Or.inl rfl), fun _ => (key j hj).mpr (Or.inr hc2e), fun _ => rfl⟩
            · rw [u_o e16 q]
              refine ⟨(h1 j hj).1, (h1 j hj).2.trans ?_⟩
              rw [key j hj]
              exact ⟨Or.inl, fun q2 => q2.resolve_right (fun z => q (inc_eq hinc hj hc2l (z.trans hc2e.symm)))⟩
          · by_cases q : j = c2
            · subst q
              rw [u_s e16]
              exact ⟨fun _ => (h0 j hc2l).2.mpr hlc2, fun _ => by omega⟩
            · rw [u_o e16 q]; exact h2 j
  have outer : ∀ (k c : Nat) (I1 : MI), (mB n w).length - c = k → c ≤ (mB n w).length → off1 I I1 (i + 122) → (∀ j, j < (mB n w).length → (I1 (i + 122) j = 0 ∨ I1 (i + 122) j = 1 ∨ I1 (i + 122) j = 2) ∧ (I1 (i + 122) j = 1 ↔ mrk (pr : Int) n w F (bd n).toNat c 0 j)) → (∀ j, I1 (i + 122) j ≠ 0 ↔ I (i + 122) j ≠ 0) → LX2_build_141 G i r ((mB n w).length : Int) (c : Int) S I1 R Q := by
    intro k
    induction k with
    | zero =>
      intro c I1 hk hc ho h1 h2
      refine bX2_build_141 (br_t (by omega) (hq I1 ho (fun j hj => ⟨(h1 j hj).1, (h2 j).trans (h0 j hj).2, (h1 j hj).2.trans ⟨?_, ?_⟩⟩) h2))
      · rintro ⟨c0, v0, a, b, e, d⟩
        exact ⟨c0, v0, a, b, e⟩
      · rintro ⟨c0, v0, a, b, e⟩
        have : c0 < (mB n w).length := b.1
        exact ⟨c0, v0, a, b, e, by omega⟩
    | succ k ih =>
      intro c I1 hk hc ho h1 h2
      exact bX2_build_141 (br_f (by omega) (inner n.toNat 0 c I1 (by omega) (by omega) (by omega) ho h1 h2 (fun I2 o2 q1 q2 => ih (c + 1) I2 (by omega) (by omega) o2 q1 q2)))
  refine outer (mB n w).length 0 I (by omega) (by omega) (fun _ _ => rfl) (fun j hj => ⟨?_, ?_⟩) (fun j => Iff.rfl)
  · have := (h0 j hj).1; omega
  · refine ⟨fun q => ?_, ?_⟩
    · have := (h0 j hj).1; omega
    · rintro ⟨c0, v0, a, b, e, d⟩
      omega
end R2e

